-- the class's walker: kinds, attributes, texts
section QV5
variable {dA : Nat → ClassId} {h h1 : hm_T} {z z1 : hz_T} {w a n : Nat} {B : Nat → Nat} {D : Nat → nd}
theorem q_sgc_in : ∀ i, i < 5 → ((nI (q_sgc i) = 35 ↔ i = 2) ∧ (nI (q_sgc i) = 37 ↔ i = 3) ∧ (nI (q_sgc i) = 42 ↔ i = 1) ∧ (nI (q_sgc i) = 46 ↔ i = 4)) := by decide +kernel
theorem bI_if {p : Prop} [Decidable p] {K : Int32 → Prop} (hK : K (bI (decide p))) : if p then K 1 else K 0 := by
  by_cases q : p
  · rw [decide_eq_true q] at hK; exact if_yes q hK
  · rw [decide_eq_false q] at hK; exact if_no q hK
def cs (t : List Nat) : Prop := t.length ≤ 120 ∧ ∀ c ∈ t, c < 128
theorem wk.txt (G : wk dA h z w a n B D) {k : Nat} (hk : k < n) : cs (D k).2.2.2.2.2 := by
  obtain ⟨mk, ok⟩ := G.ok
  have o := ok.2 k hk
  exact ⟨by omega, o.2.2.2.2.2.2.2.1⟩
theorem wk.kd (G : wk dA h z w a n B D) {k : Nat} (hk : k < n) {i : Nat} (hi : i < 10) : nI (D k).2.1 = nI i ↔ (D k).2.1 = i := by
  obtain ⟨mk, ok⟩ := G.ok
  have o := ok.2 k hk
  exact nI_eq (by omega) (by omega)
theorem wk_takes (G : wk dA h z w a n B D) {c nm u kd k : Nat} {v0 v3 v4 : Value} {t : List Nat} (c0 : h c = some (.inr (12, [v0, .int (nI (q_sgc kd)), .ref nm, v3, v4]))) (hz : z nm = some (u, t)) (ht : cs t) (hkd : kd ≤ 4) (hk : k < n) {K : Int32 → hm_T → hz_T → Prop} (hK : K (bI (q_kd D kd t k)) h z) : w_Step_takes dA c (some (B k)) K h z := by
  obtain ⟨fs, tt, u2, c1, c2, c3, c4, c5, c6⟩ := G.cell hk
  obtain ⟨i2, i3, i1, i4⟩ := q_sgc_in kd (by omega)
  have tx := G.txt hk
  have kdi : ∀ i, i < 10 → i ≠ 0 → i ≠ 4 → kd = i → q_kd D kd t k = decide ((D k).2.1 = i) := fun i _ h0 h4 e => by
    unfold q_kd
    rw [if_neg (by omega), if_neg (by omega), e]
  have leaf : ∀ i : Nat, i < 10 → i ≠ 0 → i ≠ 4 → kd = i → cg_d (some (B k)) (fun a22 => cg_I h 8 0 a22 (fun v23 => if v23 = nI i then K 1 h z else K 0 h z)) := fun i h1 h0 h4 e => by
    refine cg_d_of (cg_I_of c1 c2 ?_)
    rw [kdi i h1 h0 h4 e] at hK
    by_cases q : (D k).2.1 = i
    · rw [decide_eq_true q] at hK; exact if_yes ((G.kd hk h1).mpr q) hK
    · rw [decide_eq_false q] at hK; exact if_no (fun e => q ((G.kd hk h1).mp e)) hK
  unfold w_Step_takes
  refine cg_I_of c0 rfl ?_
  by_cases q2 : kd = 2
  · exact if_yes (i2.mpr q2) (leaf 2 (by decide) (by decide) (by decide) q2)
  refine if_no (fun e => q2 (i2.mp e)) ?_
  by_cases q3 : kd = 3
  · exact if_yes (i3.mpr q3) (leaf 3 (by decide) (by decide) (by decide) q3)
  refine if_no (fun e => q3 (i3.mp e)) ?_
  by_cases q1 : kd = 1
  · exact if_yes (i1.mpr q1) (leaf 1 (by decide) (by decide) (by decide) q1)
  refine if_no (fun e => q1 (i1.mp e)) ?_
  by_cases q4 : kd = 4
  · refine if_yes (i4.mpr q4) ?_
    have e : q_kd D kd t k = true := by
      unfold q_kd
      rw [if_neg (by omega), if_pos q4]
    rw [e] at hK
    exact hK
  refine if_no (fun e => q4 (i4.mp e)) (cg_d_of (cg_I_of c1 c2 ?_))
  have e : q_kd D kd t k = decide ((D k).2.1 = 1 ∧ (D k).2.2.2.2.2 = t) := by
    unfold q_kd
    rw [if_pos (by omega)]
  rw [e] at hK
  by_cases q : (D k).2.1 = 1
  · refine if_yes ((G.kd hk (i := 1) (by decide)).mpr q) (cg_d_of (cg_R_ref c1 c5 (cg_R_ref c0 rfl (cg_d_of (cg_d_of ⟨u2, _, u, t, c6, hz, by have := tx.1; omega, by have := ht.1; omega, tx.2, ht.2, ?_⟩)))))
    by_cases qt : (D k).2.2.2.2.2 = t
    · rw [if_pos qt]
      rw [decide_eq_true ⟨q, qt⟩] at hK
      exact if_no (by decide) hK
    · rw [if_neg qt]
      rw [decide_eq_false (fun x => qt x.2)] at hK
      exact if_yes rfl hK
  · rw [decide_eq_false (fun x => q x.1)] at hK
    exact if_no (fun e => q ((G.kd hk (i := 1) (by decide)).mp e)) hK
theorem wk_att (G : wk dA h z w a n B D) {k tn un : Nat} {nm : List Nat} (hk : k < n) (hz : z tn = some (un, nm)) (hn : cs nm) {K : Option Nat → hm_T → hz_T → Prop} (k0 : (D k).2.2.2.2.1.find? (fun q => decide (q.1 = nm)) = none → K none h z) (k1 : ∀ x q, (D k).2.2.2.2.1.find? (fun q => decide (q.1 = nm)) = some q → cp_at1 h z x q → (q.2.length ≤ 20 ∧ ∀ c ∈ q.2, c < 128) → K (some x) h z) : w_Node_attributeNamed dA (B k) (some tn) K h z := by
  obtain ⟨aM, aO, aE, mk, m, N, E, J, V, Q, W, T, P, d, ok, pre, at0⟩ := G
  obtain ⟨d1, d2, d3, d4, d5, d6, ⟨ad, aas, j, n1, n2, el, ra⟩, u, d8⟩ := d k hk
  have o := ok.2 k hk
  refine rl_named (cp_nB T hk) rfl j el (fun i hi => (ra i hi).1) hz (by have := hn.1; omega) hn.2 (fun q hq => ⟨by have := (o.2.2.2.2.2.1 q hq).1; omega, (o.2.2.2.2.2.1 q hq).2.2.1⟩) (by omega) (fun nn => k0 ?_) (fun i hi e1 e2 => ?_)
  · rw [List.find?_eq_none]
    exact fun q hq => by simpa using nn q hq
  · have gi : (D k).2.2.2.2.1.getD i ([], []) = (D k).2.2.2.2.1[i] := by rw [List.getD_eq_getElem?_getD, List.getElem?_eq_getElem hi]; rfl
    have gm : (D k).2.2.2.2.1.getD i ([], []) ∈ (D k).2.2.2.2.1 := by rw [gi]; exact List.getElem_mem hi
    have oq := o.2.2.2.2.2.1 _ gm
    refine k1 _ _ ?_ (ra i hi).1 ⟨oq.2.1, oq.2.2.2⟩
    rw [List.find?_eq_some_iff_getElem]
    refine ⟨decide_eq_true e1, i, hi, gi.symm, fun j hj => ?_⟩
    have := e2 j hj
    rw [List.getD_eq_getElem?_getD, List.getElem?_eq_getElem (by omega)] at this
    simpa using this
theorem q_hat_eq (at0 : nd_at n D) {k what : Nat} {nm str : List Nat} (hk : k < n) : q_hat D what nm str k = (match (D k).2.2.2.2.1.find? (fun q => decide (q.1 = nm)) with | none => false | some q => decide (what = 2 ∨ q.2 = str)) := by
  unfold q_hat
  by_cases q : (D k).2.1 = 1
  · rw [decide_eq_true q, Bool.true_and]
    rfl
  · rw [at0 k hk q, decide_eq_false q, Bool.false_and]
    rfl
theorem bO_s1 {S : Nat → Bool} {k : Nat} (e : S k = true) : bO S k ||| ((1 : Int64) <<< ((nI k).toInt64 &&& 63)) = bO S (k + 1) := by
  show _ = bO S k ||| _
  rw [if_pos e]
theorem bO_s0 {S : Nat → Bool} {k : Nat} (e : S k = false) : bO S k ||| 0 = bO S (k + 1) := by
  show _ = bO S k ||| _
  rw [if_neg (by rw [e]; decide)]
theorem wk_wAttL (G : wk dA h z w a n B D) {c nm st u v what : Nat} {v0 v1 v2 v4 v7 : Value} {t str : List Nat} (c0 : h c = some (.inr (13, [v0, v1, v2, .ref nm, v4, .int (nI (q_cmc what)), .ref st, v7]))) (hz : z nm = some (u, t)) (ht : cs t) (hz2 : z st = some (v, str)) (hs : what = 3 → cs str) (hw : what = 2 ∨ what = 3) {K : Int64 → hm_T → hz_T → Prop} (hK : K (bO (q_hat D what t str) n) h z) : ∀ (r fu k : Nat), k + r = n → r < fu → w_Walker_withAttribute_5 dA w K fu (some c) (bO (q_hat D what t str) k) (nI k) h z := by
  have hn := G.hn
  have at0 := G.at0
  intro r
  induction r with
  | zero =>
    intro fu k hk hr
    obtain ⟨fu, rfl⟩ : ∃ f, fu = f + 1 := ⟨fu - 1, by omega⟩
    obtain rfl : k = n := by omega
    unfold w_Walker_withAttribute_5
    exact G.size (if_yes (nI_le (Nat.le_refl _) (by omega)) hK)
  | succ r ih =>
    intro fu k hk hr
    obtain ⟨fu, rfl⟩ : ∃ f, fu = f + 1 := ⟨fu - 1, by omega⟩
    have i1 := ih fu (k + 1) (by omega) (by omega)
    have hkn : k < n := by omega
    obtain ⟨fs, tt, u2, c1, c2, c3, c4, c5, c6⟩ := G.cell hkn
    have he := q_hat_eq (what := what) (nm := t) (str := str) at0 hkn
    have yes : q_hat D what t str k = true → w_Walker_withAttribute_65 dA w K (w_Walker_withAttribute_5 dA w K fu) (some c) (bO (q_hat D what t str) k) (nI k) h z := fun e => by
      unfold w_Walker_withAttribute_65 w_Walker_withAttribute_70 w_Walker_withAttribute_86
      refine if_no (by decide) ?_
      rw [bO_s1 e, nI_1]
      exact i1
    have no : q_hat D what t str k = false → w_Walker_withAttribute_69 dA w K (w_Walker_withAttribute_5 dA w K fu) (some c) (bO (q_hat D what t str) k) (nI k) h z := fun e => by
      unfold w_Walker_withAttribute_69 w_Walker_withAttribute_70 w_Walker_withAttribute_86
      refine if_yes rfl ?_
      rw [bO_s0 e, nI_1]
      exact i1
    unfold w_Walker_withAttribute_5
    refine G.size (if_no (nI_ge (by omega) (by omega)) (G.node hkn (cg_d_of (cg_R_ref c0 rfl (cg_d_of (cg_c_of c1 (wk_att G hkn hz ht (fun e => ?_) (fun x q e hx hq => ?_))))))))
    · rw [e] at he
      exact if_yes rfl (no he)
    · rw [e] at he
      obtain ⟨p1, p2, u3, u4, x1, x2, x3⟩ := hx
      refine if_no (by simp) (cg_d_of (cg_I_of c0 rfl ?_))
      rcases hw with hw | hw
      · subst hw
        exact if_yes (by decide) (yes (he.trans (decide_eq_true (Or.inl rfl))))
      · have hs3 := hs hw
        subst hw
        refine if_no (by decide) (cg_d_of (cg_c_of x1 ?_))
        unfold w_Attribute_value
        refine cg_R_ref x1 rfl (cg_d_of (cg_R_ref c0 rfl (cg_d_of (cg_d_of ⟨u4, _, v, str, x3, hz2, by omega, by have := hs3.1; omega, hq.2, hs3.2, ?_⟩))))
        by_cases qe : q.2 = str
        · rw [if_pos qe]
          exact if_no (by decide) (yes (he.trans (decide_eq_true (Or.inr qe))))
        · rw [if_neg qe]
          exact if_yes rfl (no (he.trans (decide_eq_false (fun x => x.elim (by decide) qe))))
theorem wk_wAtt (G : wk dA h z w a n B D) {c nm st u v what : Nat} {v0 v1 v2 v4 v7 : Value} {t str : List Nat} (c0 : h c = some (.inr (13, [v0, v1, v2, .ref nm, v4, .int (nI (q_cmc what)), .ref st, v7]))) (hz : z nm = some (u, t)) (ht : cs t) (hz2 : z st = some (v, str)) (hs : what = 3 → cs str) (hw : what = 2 ∨ what = 3) {K : Int64 → hm_T → hz_T → Prop} (hK : K (bO (q_hat D what t str) n) h z) : w_Walker_withAttribute dA w (some c) K h z := by
  have hn := G.hn
  unfold w_Walker_withAttribute
  exact wk_wAttL G c0 hz ht hz2 hs hw hK n mF 0 (by omega) (by unfold mF; omega)
-- texts
def fz (beg : Bool) : List Nat → List Nat → Bool
  | [], rem => decide (rem = [])
  | _ :: _, [] => beg
  | c :: t, d :: rem => if c = d then fz beg t rem else false
theorem fz_rd {beg : Bool} : ∀ t str : List Nat, fz beg t str = (if beg = true then str.isPrefixOf t else decide (t = str)) := by
  intro t
  induction t with
  | nil =>
    intro str
    cases str with
    | nil => cases beg <;> rfl
    | cons d r => cases beg <;> rfl
  | cons c t ih =>
    intro str
    cases str with
    | nil => cases beg <;> rfl
    | cons d r =>
      unfold fz
      rw [ih r]
      cases beg with
      | true =>
        rw [if_pos rfl, if_pos rfl]
        show _ = (d == c && r.isPrefixOf t)
        by_cases q : c = d
        · subst q; rw [if_pos rfl, beq_self_eq_true, Bool.true_and]
        · rw [if_neg q, beq_false_of_ne (Ne.symm q), Bool.false_and]
      | false =>
        show (if c = d then decide (t = r) else false) = decide (c :: t = d :: r)
        by_cases q : c = d
        · subst q
          rw [if_pos rfl]
          exact decide_eq_decide.mpr ⟨fun e => by rw [e], fun e => (List.cons.inj e).2⟩
        · rw [if_neg q, decide_eq_false (fun e => q (List.cons.inj e).1)]
theorem nd_leaf {mk : Nat} (ok : nd_ok mk n D) (pre : nd_pre n D) {y : Nat} (hy : y < n) (hk : (D y).2.1 ≠ 1) : a_end n D y = y + 1 := by
  have up : ∀ j, j < n → ∀ p, (fun k => (D k).2.2.1) j = some p → p < j := fun j hj p hp => (ok.2 j hj).2.2.1 p hp
  have es := mp_end_spec (pa := fun k => (D k).2.2.1) hy
  rcases Nat.lt_or_ge (y + 1) (a_end n D y) with q | q
  · exfalso
    unfold a_end at q
    have hn : y + 1 < n := by omega
    have d1 := es.2.2.1 (y + 1) (by omega) q
    cases e : (D (y + 1)).2.2.1 with
    | none => have := (ok.2 _ hn).2.2.2.2.2.2.2.2 e; omega
    | some p =>
      have hp := (ok.2 _ hn).2.2.1 p e
      have p1 := pre _ hn p e
      have d2 : mp_dep (fun k => (D k).2.2.1) (y + 1) = mp_dep (fun k => (D k).2.2.1) p + 1 := mp_dep_some up hn e
      rcases Nat.lt_or_ge p y with w | w
      · have := p1.2 y w (by omega); omega
      · have e2 : p = y := by omega
        rw [e2] at p1
        exact hk p1.1
  · unfold a_end at q ⊢; omega
theorem drop_c {l : List Nat} {i : Nat} (hi : i < l.length) : l.drop i = l.getD i 0 :: l.drop (i + 1) := by
  rw [List.drop_eq_getElem_cons hi, List.getD_eq_getElem?_getD, List.getElem?_eq_getElem hi]
  rfl
theorem q_cmc_in : ∀ i, i < 7 → (nI (q_cmc i) = 126 ↔ i = 6) := by decide +kernel
theorem wk_sv70 (G : wk dA h z w a n B D) {c st v what y q e : Nat} {v0 v1 v2 v3 v4 v7 : Value} {str rest : List Nat} (c0 : h c = some (.inr (13, [v0, v1, v2, v3, v4, .int (nI (q_cmc what)), .ref st, v7]))) (hz2 : z st = some (v, str)) (hs : cs str) (hw : what < 7) (hq : q < n) {K : Int32 → hm_T → hz_T → Prop} {k24 : Option Nat → Option Nat → Option Nat → Int32 → Int32 → Int32 → hm_T → hz_T → Prop} {ans : Bool} (hK : K (bI ans) h z) (hk : ∀ c2, c2 ≤ str.length → fz (decide (what = 6)) rest (str.drop c2) = ans → k24 (some (B y)) (some c) (some st) (nI c2) (nI e) (nI (q + 1)) h z) : ∀ (r fu j c2 : Nat), j + r = (D q).2.2.2.2.2.length → r < fu → c2 ≤ str.length → fz (decide (what = 6)) ((D q).2.2.2.2.2.drop j ++ rest) (str.drop c2) = ans → w_Walker_stringValueFits_70 dA w K k24 fu (some (B y)) (some c) (some st) (nI c2) (nI e) (nI q) (some (B q)) 1 (nI j) h z := by
  obtain ⟨fs, tt, u2, c1, c2', c3, c4, c5, c6⟩ := G.cell hq
  have tx := G.txt hq
  have hn := G.hn
  intro r
  induction r with
  | zero =>
    intro fu j c2 hj hr hc ha
    obtain ⟨fu, rfl⟩ : ∃ f, fu = f + 1 := ⟨fu - 1, by omega⟩
    unfold w_Walker_stringValueFits_70 w_Walker_stringValueFits_142
    refine if_no (by decide) (cg_d_of (cg_R_ref c1 c5 (cg_d_of ⟨u2, _, c6, if_yes (nI_le (by omega) (by have := tx.1; omega)) ?_⟩)))
    rw [nI_1]
    rw [List.drop_eq_nil_of_le (by omega), List.nil_append] at ha
    exact hk c2 hc ha
  | succ r ih =>
    intro fu j c2 hj hr hc ha
    obtain ⟨fu, rfl⟩ : ∃ f, fu = f + 1 := ⟨fu - 1, by omega⟩
    have htx := tx.1
    have hsx := hs.1
    unfold w_Walker_stringValueFits_70
    refine if_no (by decide) (cg_d_of (cg_R_ref c1 c5 (cg_d_of ⟨u2, _, c6, if_no (nI_ge (by omega) (by omega)) (cg_d_of ⟨v, str, hz2, ?_⟩)⟩)))
    rw [drop_c (show j < (D q).2.2.2.2.2.length by omega), List.cons_append] at ha
    by_cases qc : c2 = str.length
    · refine if_yes (by rw [qc]) (cg_d_of (cg_I_of c0 rfl ?_))
      rw [qc, List.drop_eq_nil_of_le (Nat.le_refl _)] at ha
      have ha2 : decide (what = 6) = ans := ha
      have e6 : nI (q_cmc what) = 126 ↔ what = 6 := q_cmc_in what hw
      by_cases q6 : what = 6
      · rw [decide_eq_true q6] at ha2
        rw [← ha2] at hK
        exact if_yes (e6.mpr q6) hK
      · rw [decide_eq_false q6] at ha2
        rw [← ha2] at hK
        exact if_no (fun x => q6 (e6.mp x)) hK
    · have hc3 : c2 < str.length := by omega
      rw [drop_c hc3] at ha
      unfold fz at ha
      have l1 := getD_lt tx.2 j
      have l2 := getD_lt hs.2 c2
      refine if_no (fun x => qc ((nI_eq (by omega) (by omega)).mp x)) (cg_d_of (cg_R_ref c1 c5 (cg_d_of ⟨u2, _, j, c6, rfl, by omega, by omega, tx.2, cg_d_of ⟨v, str, c2, hz2, rfl, hc3, by omega, hs.2, ?_⟩⟩)))
      by_cases qd : (D q).2.2.2.2.2.getD j 0 = str.getD c2 0
      · rw [if_pos qd] at ha
        refine if_yes (by rw [qd]) ?_
        rw [nI_1, nI_1]
        exact ih fu (j + 1) (c2 + 1) (by omega) (by omega) (by omega) ha
      · rw [if_neg qd] at ha
        rw [← ha] at hK
        exact if_no (fun x => qd ((nI_eq (by omega) (by omega)).mp x)) hK
def svP (D : Nat → nd) (y q : Nat) : List Nat := if (D q).2.1 = 2 ∨ (q = y ∧ (D q).2.1 = 3) then (D q).2.2.2.2.2 else []
theorem wk_sv24 (G : wk dA h z w a n B D) {c st v what y : Nat} {v0 v1 v2 v3 v4 v7 : Value} {str : List Nat} (c0 : h c = some (.inr (13, [v0, v1, v2, v3, v4, .int (nI (q_cmc what)), .ref st, v7]))) (hz2 : z st = some (v, str)) (hs : cs str) (hw : what < 7) (hy : y < n) {K : Int32 → hm_T → hz_T → Prop} {ans : Bool} (hK : K (bI ans) h z) : ∀ (r fu q c2 : Nat), q + r = a_end n D y → y ≤ q → r < fu → c2 ≤ str.length → fz (decide (what = 6)) ((q_rng q (a_end n D y)).map (svP D y)).flatten (str.drop c2) = ans → w_Walker_stringValueFits_24 dA w K fu (some (B y)) (some c) (some st) (nI c2) (nI (a_end n D y)) (nI q) h z := by
  obtain ⟨mk, ok⟩ := G.ok
  have hn := G.hn
  have es := mp_end_spec (pa := fun k => (D k).2.2.1) hy
  have hsx := hs.1
  have ae : a_end n D y ≤ n := es.2.1
  intro r
  induction r with
  | zero =>
    intro fu q c2 hj hyq hr hc ha
    obtain ⟨fu, rfl⟩ : ∃ f, fu = f + 1 := ⟨fu - 1, by omega⟩
    unfold w_Walker_stringValueFits_24
    rw [q_rng_nil (by omega)] at ha
    have ha2 : decide (str.drop c2 = []) = ans := ha
    refine if_yes (nI_le (by omega) (by omega)) (cg_d_of ⟨v, str, hz2, ?_⟩)
    rw [← ha2] at hK
    by_cases qc : c2 = str.length
    · rw [decide_eq_true (by rw [qc]; exact List.drop_eq_nil_of_le (Nat.le_refl _))] at hK
      exact if_yes (by rw [qc]) hK
    · rw [decide_eq_false (fun x => by have := congrArg List.length x; rw [List.length_drop] at this; simp at this; omega)] at hK
      exact if_no (fun x => qc ((nI_eq (by omega) (by omega)).mp x)) hK
  | succ r ih =>
    intro fu q c2 hj hyq hr hc ha
    obtain ⟨fu, rfl⟩ : ∃ f, fu = f + 1 := ⟨fu - 1, by omega⟩
    have hqn : q < n := by omega
    obtain ⟨fs, tt, u2, c1, c2', c3, c4, c5, c6⟩ := G.cell hqn
    obtain ⟨fs2, tt2, u3, e1, e2, e3, e4, e5, e6⟩ := G.cell hy
    have tx := (G.txt hqn).1
    rw [q_rng_cons (by omega), List.map_cons, List.flatten_cons] at ha
    have next : ∀ c9, c9 ≤ str.length → fz (decide (what = 6)) ((q_rng (q + 1) (a_end n D y)).map (svP D y)).flatten (str.drop c9) = ans → w_Walker_stringValueFits_24 dA w K fu (some (B y)) (some c) (some st) (nI c9) (nI (a_end n D y)) (nI (q + 1)) h z := fun c9 h1 h2 => ih fu (q + 1) c9 (by omega) (by omega) (by omega) h1 h2
    have yes : svP D y q = (D q).2.2.2.2.2 → w_Walker_stringValueFits_60 dA w K (w_Walker_stringValueFits_24 dA w K fu) (some (B y)) (some c) (some st) (nI c2) (nI (a_end n D y)) (nI q) (some (B q)) h z := fun e => by
      unfold w_Walker_stringValueFits_60 w_Walker_stringValueFits_65
      rw [e] at ha
      exact wk_sv70 G c0 hz2 hs hw hqn hK next (D q).2.2.2.2.2.length mF 0 c2 (by omega) (by unfold mF; omega) hc (by rw [List.drop_zero]; exact ha)
    unfold w_Walker_stringValueFits_24
    refine if_no (nI_ge (by omega) (by omega)) (G.node hqn (cg_d_of (cg_I_of c1 c2' ?_)))
    by_cases q2 : (D q).2.1 = 2
    · exact if_yes ((G.kd hqn (i := 2) (by decide)).mpr q2) (yes (if_pos (Or.inl q2)))
    refine if_no (fun x => q2 ((G.kd hqn (i := 2) (by decide)).mp x)) (cg_d_of (cg_I_of e1 e2 ?_))
    by_cases q3 : (D y).2.1 = 3
    · have el := nd_leaf ok G.pre hy (by omega)
      have eq : q = y := by omega
      subst eq
      exact if_yes ((G.kd hy (i := 3) (by decide)).mpr q3) (yes (if_pos (Or.inr ⟨rfl, q3⟩)))
    refine if_no (fun x => q3 ((G.kd hy (i := 3) (by decide)).mp x)) ?_
    have en : svP D y q = [] := if_neg (fun x => x.elim q2 (fun x => q3 (by rw [← x.1]; exact x.2)))
    rw [en, List.nil_append] at ha
    unfold w_Walker_stringValueFits_65 mF w_Walker_stringValueFits_70 w_Walker_stringValueFits_142
    refine if_yes rfl ?_
    rw [nI_1]
    exact next c2 hc ha
theorem wk_sv (G : wk dA h z w a n B D) {c st v what y : Nat} {v0 v1 v2 v3 v4 v7 : Value} {str : List Nat} (c0 : h c = some (.inr (13, [v0, v1, v2, v3, v4, .int (nI (q_cmc what)), .ref st, v7]))) (hz2 : z st = some (v, str)) (hs : cs str) (hw : what < 7) (hy : y < n) {K : Int32 → hm_T → hz_T → Prop} (hK : K (bI (q_rd n D y str (decide (what = 6)))) h z) : w_Walker_stringValueFits dA w (some (B y)) (some c) K h z := by
  have hn := G.hn
  obtain ⟨fs2, tt2, u3, e1, e2, e3, e4, e5, e6⟩ := G.cell hy
  have es := mp_end_spec (pa := fun k => (D k).2.2.1) hy
  have ae : y < a_end n D y ∧ a_end n D y ≤ n := ⟨es.1, es.2.1⟩
  unfold w_Walker_stringValueFits
  refine cg_d_of (cg_R_ref c0 rfl (G.endOf hy (cg_d_of (cg_I_of e1 e4 ?_))))
  refine wk_sv24 G c0 hz2 hs hw hy (ans := q_rd n D y str (decide (what = 6))) hK (a_end n D y - y) mF y 0 (by omega) (Nat.le_refl _) (by unfold mF; omega) (Nat.zero_le _) ?_
  rw [List.drop_zero, fz_rd]
  rfl
theorem wk_goL (G : wk dA h z w a n B D) {c st v what : Nat} {v0 v1 v2 v3 v4 v7 : Value} {str : List Nat} (c0 : h c = some (.inr (13, [v0, v1, v2, v3, v4, .int (nI (q_cmc what)), .ref st, v7]))) (hz2 : z st = some (v, str)) (hs : cs str) (hw : what < 7) {K : Int64 → hm_T → hz_T → Prop} (hK : K (bO (fun y => q_rd n D y str (decide (what = 6))) n) h z) : ∀ (r fu k : Nat), k + r = n → r < fu → w_Walker_goals_26 dA w K fu (some c) (bO (fun y => q_rd n D y str (decide (what = 6))) k) (nI k) h z := by
  have hn := G.hn
  intro r
  induction r with
  | zero =>
    intro fu k hk hr
    obtain ⟨fu, rfl⟩ : ∃ f, fu = f + 1 := ⟨fu - 1, by omega⟩
    obtain rfl : k = n := by omega
    unfold w_Walker_goals_26
    exact G.size (if_yes (nI_le (Nat.le_refl _) (by omega)) hK)
  | succ r ih =>
    intro fu k hk hr
    obtain ⟨fu, rfl⟩ : ∃ f, fu = f + 1 := ⟨fu - 1, by omega⟩
    have i1 := ih fu (k + 1) (by omega) (by omega)
    unfold w_Walker_goals_26
    refine G.size (if_no (nI_ge (by omega) (by omega)) (G.node (by omega) (cg_c_of G.W (wk_sv G c0 hz2 hs hw (by omega) ?_))))
    unfold w_Walker_goals_65
    rw [nI_1]
    cases e : q_rd n D k str (decide (what = 6)) with
    | true =>
      refine if_no (by decide) ?_
      rw [bO_s1 (S := fun y => q_rd n D y str (decide (what = 6))) e]
      exact i1
    | false =>
      refine if_yes rfl ?_
      rw [bO_s0 (S := fun y => q_rd n D y str (decide (what = 6))) e]
      exact i1
/-- the places that a predicate's path may lead to -/
def goS (n : Nat) (D : Nat → nd) (what : Nat) (str : List Nat) (y : Nat) : Bool := if what = 4 then true else q_rd n D y str (decide (what = 6))
theorem wk_goals (G : wk dA h z w a n B D) {c st v what : Nat} {v0 v1 v2 v3 v4 v7 : Value} {str : List Nat} (c0 : h c = some (.inr (13, [v0, v1, v2, v3, v4, .int (nI (q_cmc what)), .ref st, v7]))) (hz2 : z st = some (v, str)) (hs : 5 ≤ what → cs str) (hw : what < 7) (hw4 : 4 ≤ what) {K : Int64 → hm_T → hz_T → Prop} (hK : ∀ m, bR m (fun y => decide (y < n) && goS n D what str y) → K m h z) : w_Walker_goals dA w (some c) K h z := by
  have hn := G.hn
  unfold w_Walker_goals
  refine cg_d_of (cg_I_of c0 rfl ?_)
  by_cases q : what = 4
  · refine if_yes (by rw [q]; decide) (G.size (wk_range (f := 0) (Nat.zero_le _) hn (fun v hv => hK v (bR_cg hv (fun y hy => ?_)))))
    unfold goS
    rw [if_pos q, Bool.and_true]
    exact decide_eq_decide.mpr ⟨fun h => h.2, fun h => ⟨Nat.zero_le _, h⟩⟩
  · have e32 : ¬ nI (q_cmc what) = 32 := by
      have : what = 5 ∨ what = 6 := by omega
      rcases this with e | e <;> (rw [e]; decide)
    refine if_no e32 (wk_goL G c0 hz2 (hs (by omega)) hw (hK _ (bR.mk (fun y hy => ?_))) n mF 0 (by omega) (by unfold mF; omega))
    rw [b_O hy n (by omega)]
    unfold goS
    rw [if_neg q]
end QV5
