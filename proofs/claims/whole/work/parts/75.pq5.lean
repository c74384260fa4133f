-- nodes put into a document
def nd_sf (sp L p : Nat) : Nat := if p < sp then p else p + L
def nd_wp (sp : Nat) (po : Option Nat) (o : Option Nat) : Option Nat := match o with
  | none => po
  | some j => some (sp + j)
def nd_w (mk sp : Nat) (po : Option Nat) (i : Nat) (w : wn) : nd := (mk + i, w.1, nd_wp sp po w.2.1, w.2.2.2.1, w.2.2.2.2.1, w.2.2.2.2.2)
def nd_mv (sp L : Nat) (d : nd) : nd := (d.1, d.2.1, d.2.2.1.map (nd_sf sp L), d.2.2.2)
/-- what W has goes in at sp -/
def nd_ins (D : Nat → nd) (sp mk : Nat) (po : Option Nat) (W : List wn) (k : Nat) : nd := if k < sp then D k else if k < sp + W.length then nd_w mk sp po (k - sp) (W.getD (k - sp) wn0) else nd_mv sp W.length (D (k - W.length))
def nd_spot (n : Nat) (D : Nat → nd) (sp : Nat) (po : Option Nat) (od : Nat) : Prop := sp ≤ n ∧ ((po = none ∧ n = 0 ∧ od = 0) ∨ ∃ pp, po = some pp ∧ pp < sp ∧ (D pp).2.1 = 1 ∧ od = mp_dep (fun k => (D k).2.2.1) pp + 1 ∧ (∀ j, pp < j → j < sp → mp_dep (fun k => (D k).2.2.1) pp < mp_dep (fun k => (D k).2.2.1) j) ∧ (sp < n → mp_dep (fun k => (D k).2.2.1) sp ≤ od))
theorem nd_ok.up {mk mk2 n : Nat} {D : Nat → nd} (ok : nd_ok mk n D) (h : mk ≤ mk2) : nd_ok mk2 n D := ⟨ok.1, fun k hk => ⟨Nat.lt_of_lt_of_le (ok.2 k hk).1 h, (ok.2 k hk).2⟩⟩
section PQ5
variable {mk n sp od : Nat} {D : Nat → nd} {po : Option Nat} {W : List wn} {ov : Bool}
theorem nd_ins_1 {k : Nat} (h : k < sp) : nd_ins D sp mk po W k = D k := if_pos h
theorem nd_ins_2 {i : Nat} (h : i < W.length) : nd_ins D sp mk po W (sp + i) = nd_w mk sp po i (W.getD i wn0) := by
  unfold nd_ins
  rw [if_neg (by omega), if_pos (by omega), Nat.add_sub_cancel_left]
theorem nd_ins_3 {k : Nat} (h : sp ≤ k) : nd_ins D sp mk po W (k + W.length) = nd_mv sp W.length (D k) := by
  unfold nd_ins
  rw [if_neg (by omega), if_neg (by omega), Nat.add_sub_cancel]
/-- each place is one of three -/
theorem nd_ins_c {k : Nat} (hk : k < n + W.length) : k < sp ∨ (∃ i, i < W.length ∧ k = sp + i) ∨ ∃ j, sp ≤ j ∧ j < n ∧ k = j + W.length := by
  by_cases q : k < sp
  · exact Or.inl q
  · by_cases q2 : k < sp + W.length
    · exact Or.inr (Or.inl ⟨k - sp, by omega, by omega⟩)
    · exact Or.inr (Or.inr ⟨k - W.length, by omega, by omega, by omega⟩)
theorem wI.par (I : wI od W ov) {i : Nat} (hi : i < W.length) : ((W.getD i wn0).2.1 = none → (W.getD i wn0).2.2.1 = od ∧ i = 0) ∧ ∀ j, (W.getD i wn0).2.1 = some j → j < i ∧ (W.getD j wn0).1 = 1 ∧ (W.getD i wn0).2.2.1 = (W.getD j wn0).2.2.1 + 1 ∧ ∀ k, j < k → k < i → (W.getD j wn0).2.2.1 < (W.getD k wn0).2.2.1 := by
  have h := (I.1 i hi).2.1
  have tk : ∀ k, k < i → (W.take i).getD k wn0 = W.getD k wn0 := fun k hk => by
    rw [List.getD_eq_getElem?_getD, List.getElem?_take, if_pos hk, ← List.getD_eq_getElem?_getD]
  have tl : (W.take i).length = i := by rw [List.length_take]; omega
  refine ⟨fun e => ?_, fun j e => ?_⟩
  · have := h.1 e
    refine ⟨this.1, ?_⟩
    have h2 := congrArg List.length this.2
    rw [tl] at h2
    simpa using h2
  · obtain ⟨a1, a2, a3, a4⟩ := h.2 j e
    rw [tl] at a1
    rw [tk j a1] at a2 a3 a4
    refine ⟨a1, a2, a3, fun k h1 h2 => ?_⟩
    have := a4 k h1 (by rw [tl]; exact h2)
    rwa [tk k h2] at this
theorem nd_ins_lt (ok : nd_ok mk n D) (S : nd_spot n D sp po od) (I : wI od W ov) : ∀ k, k < n + W.length → ∀ p, (nd_ins D sp mk po W k).2.2.1 = some p → p < k := by
  intro k hk p e
  rcases nd_ins_c (sp := sp) hk with q | ⟨i, hi, rfl⟩ | ⟨j, h1, h2, rfl⟩
  · rw [nd_ins_1 q] at e
    exact (ok.2 k (by have := S.1; omega)).2.2.1 p e
  · rw [nd_ins_2 hi] at e
    have hp := I.par hi
    change nd_wp sp po (W.getD i wn0).2.1 = some p at e
    cases e2 : (W.getD i wn0).2.1 with
    | none =>
      rw [e2] at e
      change po = some p at e
      rcases S.2 with ⟨w, _⟩ | ⟨pp, w, h3, _⟩
      · rw [w] at e; cases e
      · rw [w] at e; cases e; omega
    | some j =>
      rw [e2] at e
      change some (sp + j) = some p at e
      have := (hp.2 j e2).1
      cases e; omega
  · rw [nd_ins_3 h1] at e
    change (D j).2.2.1.map (nd_sf sp W.length) = some p at e
    cases e2 : (D j).2.2.1 with
    | none => rw [e2] at e; cases e
    | some p0 =>
      rw [e2] at e
      have := (ok.2 j h2).2.2.1 p0 e2
      change some (nd_sf sp W.length p0) = some p at e
      cases e
      unfold nd_sf
      by_cases q : p0 < sp
      · rw [if_pos q]; omega
      · rw [if_neg q]; omega
/-- how deep they are -/
theorem nd_ins_dep (ok : nd_ok mk n D) (S : nd_spot n D sp po od) (I : wI od W ov) : ∀ K k, k < K → k < n + W.length → (k < sp → mp_dep (fun k => (nd_ins D sp mk po W k).2.2.1) k = mp_dep (fun k => (D k).2.2.1) k) ∧ (∀ i, i < W.length → k = sp + i → mp_dep (fun k => (nd_ins D sp mk po W k).2.2.1) k = (W.getD i wn0).2.2.1) ∧ ∀ j, sp ≤ j → j < n → k = j + W.length → mp_dep (fun k => (nd_ins D sp mk po W k).2.2.1) k = mp_dep (fun k => (D k).2.2.1) j := by
  have lt := nd_ins_lt (mk := mk) ok S I
  have lt' : ∀ k, k < n + W.length → ∀ p, (fun k => (nd_ins D sp mk po W k).2.2.1) k = some p → p < k := lt
  have lt0 : ∀ k, k < n → ∀ p, (fun k => (D k).2.2.1) k = some p → p < k := fun k hk p e => (ok.2 k hk).2.2.1 p e
  have hsn := S.1
  intro K
  induction K with
  | zero => intro k h; omega
  | succ K ih =>
    intro k hkK hk
    refine ⟨fun q => ?_, fun i hi e => ?_, fun j h1 h2 e => ?_⟩
    · have ek : (fun k => (nd_ins D sp mk po W k).2.2.1) k = (fun k => (D k).2.2.1) k := by show (nd_ins D sp mk po W k).2.2.1 = (D k).2.2.1; rw [nd_ins_1 q]
      cases e : (D k).2.2.1 with
      | none => rw [mp_dep_none (ek.trans e), mp_dep_none (pa := fun k => (D k).2.2.1) e]
      | some p =>
        have := lt0 k (by omega) p e
        rw [mp_dep_some lt' hk (ek.trans e), mp_dep_some lt0 (by omega) e, (ih p (by omega) (by omega)).1 (by omega)]
    · subst e
      have hp := I.par hi
      have ek : (fun k => (nd_ins D sp mk po W k).2.2.1) (sp + i) = nd_wp sp po (W.getD i wn0).2.1 := by show (nd_ins D sp mk po W (sp + i)).2.2.1 = _; rw [nd_ins_2 hi]; rfl
      cases e2 : (W.getD i wn0).2.1 with
      | none =>
        rw [e2] at ek
        have h0 := hp.1 e2
        rw [h0.1]
        rcases S.2 with ⟨w, _, w2⟩ | ⟨pp, w, h3, _, h5, _⟩
        · rw [mp_dep_none (ek.trans w), w2]
        · rw [mp_dep_some lt' hk (ek.trans w), (ih pp (by omega) (by omega)).1 h3, h5]
      | some j =>
        rw [e2] at ek
        obtain ⟨a1, a2, a3, a4⟩ := hp.2 j e2
        rw [mp_dep_some lt' hk ek, (ih (sp + j) (by omega) (by omega)).2.1 j (by omega) rfl, a3]
    · subst e
      have ek : (fun k => (nd_ins D sp mk po W k).2.2.1) (j + W.length) = ((D j).2.2.1).map (nd_sf sp W.length) := by show (nd_ins D sp mk po W (j + W.length)).2.2.1 = _; rw [nd_ins_3 h1]; rfl
      cases e2 : (D j).2.2.1 with
      | none =>
        rw [e2] at ek
        rw [mp_dep_none ek, mp_dep_none (pa := fun k => (D k).2.2.1) e2]
      | some p =>
        rw [e2] at ek
        have := lt0 j h2 p e2
        rw [mp_dep_some lt' hk ek, mp_dep_some lt0 h2 e2]
        unfold nd_sf
        by_cases q : p < sp
        · rw [if_pos q, (ih p (by omega) (by omega)).1 q]
        · rw [if_neg q, (ih (p + W.length) (by omega) (by omega)).2.2 p (by omega) (by omega) rfl]
theorem nd_ins_d1 (ok : nd_ok mk n D) (S : nd_spot n D sp po od) (I : wI od W ov) {k : Nat} (q : k < sp) : mp_dep (fun k => (nd_ins D sp mk po W k).2.2.1) k = mp_dep (fun k => (D k).2.2.1) k := (nd_ins_dep ok S I (k + 1) k (by omega) (by have := S.1; omega)).1 q
theorem nd_ins_d2 (ok : nd_ok mk n D) (S : nd_spot n D sp po od) (I : wI od W ov) {i : Nat} (q : i < W.length) : mp_dep (fun k => (nd_ins D sp mk po W k).2.2.1) (sp + i) = (W.getD i wn0).2.2.1 := (nd_ins_dep ok S I (sp + i + 1) (sp + i) (by omega) (by have := S.1; omega)).2.1 i q rfl
theorem nd_ins_d3 (ok : nd_ok mk n D) (S : nd_spot n D sp po od) (I : wI od W ov) {j : Nat} (h1 : sp ≤ j) (h2 : j < n) : mp_dep (fun k => (nd_ins D sp mk po W k).2.2.1) (j + W.length) = mp_dep (fun k => (D k).2.2.1) j := (nd_ins_dep ok S I (j + W.length + 1) (j + W.length) (by omega) (by omega)).2.2 j h1 h2 rfl
theorem nd_ins_ok (ok : nd_ok mk n D) (S : nd_spot n D sp po od) (I : wI od W false) (hL : ∀ i, i < W.length → (W.getD i wn0).2.2.2.1.length ≤ 16) (hn : n + W.length ≤ 40) : nd_ok (mk + W.length) (n + W.length) (nd_ins D sp mk po W) := by
  have lt := nd_ins_lt (mk := mk) ok S I
  refine ⟨hn, fun k hk => ?_⟩
  have ltk := lt k hk
  have hsn := S.1
  rcases nd_ins_c (sp := sp) hk with q | ⟨i, hi, rfl⟩ | ⟨j, h1, h2, rfl⟩
  · rw [nd_ins_1 q] at ltk ⊢
    obtain ⟨a1, a2, a3, a4⟩ := ok.2 k (by omega)
    exact ⟨by omega, a2, a3, a4⟩
  · rw [nd_ins_2 hi] at ltk ⊢
    obtain ⟨b1, b2, ⟨b3, b4, _⟩, b5, b6, _⟩ := I.1 i hi
    obtain ⟨c1, c2, c3⟩ := I.2 rfl i hi
    refine ⟨by show mk + i < mk + W.length; omega, b1, ltk, hL i hi, c1, fun q hq => ⟨(b5 q hq).1, c2 q hq, (b5 q hq).2.1, (b5 q hq).2.2⟩, c3, b6, fun e => ?_⟩
    change nd_wp sp po (W.getD i wn0).2.1 = none at e
    cases e2 : (W.getD i wn0).2.1 with
    | none =>
      rw [e2] at e
      have := (I.par hi).1 e2
      rcases S.2 with ⟨w, w2, _⟩ | ⟨pp, w, _⟩
      · omega
      · change po = none at e; rw [w] at e; cases e
    | some j => rw [e2] at e; cases e
  · rw [nd_ins_3 h1] at ltk ⊢
    obtain ⟨a1, a2, a3, a4, a5, a6, a7, a8, a9⟩ := ok.2 j h2
    refine ⟨by show (D j).1 < _; omega, a2, ltk, a4, a5, a6, a7, a8, fun e => ?_⟩
    change (D j).2.2.1.map (nd_sf sp W.length) = none at e
    cases e2 : (D j).2.2.1 with
    | none =>
      have := a9 e2
      rcases S.2 with ⟨w, w2, _⟩ | ⟨pp, w, h3, _⟩ <;> omega
    | some p => rw [e2] at e; cases e
theorem nd_ins_inj (ok : nd_ok mk n D) (S : nd_spot n D sp po od) (hj : nd_inj n D) : nd_inj (n + W.length) (nd_ins D sp mk po W) := by
  intro i j hi hj2 e
  have hsn := S.1
  have num : ∀ k, k < n + W.length → (nd_ins D sp mk po W k).1 = if k < sp then (D k).1 else if k < sp + W.length then mk + (k - sp) else (D (k - W.length)).1 := fun k hk => by
    unfold nd_ins
    by_cases q : k < sp
    · rw [if_pos q, if_pos q]
    · rw [if_neg q, if_neg q]
      by_cases q2 : k < sp + W.length
      · rw [if_pos q2, if_pos q2]; rfl
      · rw [if_neg q2, if_neg q2]; rfl
  rw [num i hi, num j hj2] at e
  have lt : ∀ k, k < n → (D k).1 < mk := fun k hk => (ok.2 k hk).1
  by_cases a1 : i < sp
  · rw [if_pos a1] at e
    by_cases b1 : j < sp
    · rw [if_pos b1] at e; exact hj i j (by omega) (by omega) e
    · rw [if_neg b1] at e
      have := lt i (by omega)
      by_cases b2 : j < sp + W.length
      · rw [if_pos b2] at e; omega
      · rw [if_neg b2] at e
        have := hj i (j - W.length) (by omega) (by omega) e
        omega
  · rw [if_neg a1] at e
    by_cases a2 : i < sp + W.length
    · rw [if_pos a2] at e
      by_cases b1 : j < sp
      · rw [if_pos b1] at e
        have := lt j (by omega)
        omega
      · rw [if_neg b1] at e
        by_cases b2 : j < sp + W.length
        · rw [if_pos b2] at e; omega
        · rw [if_neg b2] at e
          have := lt (j - W.length) (by omega)
          omega
    · rw [if_neg a2] at e
      have := lt (i - W.length) (by omega)
      by_cases b1 : j < sp
      · rw [if_pos b1] at e
        have := hj (i - W.length) j (by omega) (by omega) e
        omega
      · rw [if_neg b1] at e
        by_cases b2 : j < sp + W.length
        · rw [if_pos b2] at e; omega
        · rw [if_neg b2] at e
          have := hj (i - W.length) (j - W.length) (by omega) (by omega) e
          omega
theorem nd_ins_pre (ok : nd_ok mk n D) (S : nd_spot n D sp po od) (I : wI od W ov) (hp : nd_pre n D) (hlo : ∀ i, i < W.length → od ≤ (W.getD i wn0).2.2.1) : nd_pre (n + W.length) (nd_ins D sp mk po W) := by
  have hsn := S.1
  have lt0 : ∀ k, k < n → ∀ p, (fun k => (D k).2.2.1) k = some p → p < k := fun k hk p e => (ok.2 k hk).2.2.1 p e
  have d1 := fun {k : Nat} (q : k < sp) => nd_ins_d1 (mk := mk) (k := k) ok S I q
  have d2 := fun {i : Nat} (q : i < W.length) => nd_ins_d2 (mk := mk) (i := i) ok S I q
  have d3 := fun {j : Nat} (h1 : sp ≤ j) (h2 : j < n) => nd_ins_d3 (mk := mk) (j := j) ok S I h1 h2
  intro k hk p e
  rcases nd_ins_c (sp := sp) hk with q | ⟨i, hi, rfl⟩ | ⟨j, h1, h2, rfl⟩
  · rw [nd_ins_1 q] at e
    have hpk := lt0 k (by omega) p e
    obtain ⟨a1, a2⟩ := hp k (by omega) p e
    rw [nd_ins_1 (by omega)]
    refine ⟨a1, fun j h1 h2 => ?_⟩
    rw [d1 (show p < sp by omega), d1 (show j < sp by omega)]
    exact a2 j h1 h2
  · rw [nd_ins_2 hi] at e
    change nd_wp sp po (W.getD i wn0).2.1 = some p at e
    cases e2 : (W.getD i wn0).2.1 with
    | none =>
      rw [e2] at e
      change po = some p at e
      have h0 := (I.par hi).1 e2
      rcases S.2 with ⟨w, _⟩ | ⟨pp, w, h3, h4, h5, h6, _⟩
      · rw [w] at e; cases e
      · rw [w] at e; cases e
        rw [nd_ins_1 h3]
        refine ⟨h4, fun j g1 g2 => ?_⟩
        rw [d1 h3, d1 (show j < sp by omega)]
        exact h6 j g1 (by omega)
    | some j =>
      rw [e2] at e
      change some (sp + j) = some p at e
      cases e
      obtain ⟨a1, a2, a3, a4⟩ := (I.par hi).2 j e2
      rw [nd_ins_2 (show j < W.length by omega)]
      refine ⟨a2, fun j2 g1 g2 => ?_⟩
      rw [d2 (show j < W.length by omega), show j2 = sp + (j2 - sp) by omega, d2 (show j2 - sp < W.length by omega)]
      exact a4 (j2 - sp) (by omega) (by omega)
  · rw [nd_ins_3 h1] at e
    change (D j).2.2.1.map (nd_sf sp W.length) = some p at e
    cases e2 : (D j).2.2.1 with
    | none => rw [e2] at e; cases e
    | some p0 =>
      rw [e2] at e
      change some (nd_sf sp W.length p0) = some p at e
      cases e
      have hpj := lt0 j h2 p0 e2
      obtain ⟨a1, a2⟩ := hp j h2 p0 e2
      unfold nd_sf
      by_cases q : p0 < sp
      · rw [if_pos q, nd_ins_1 q]
        refine ⟨a1, fun k g1 g2 => ?_⟩
        rw [d1 q]
        rcases nd_ins_c (sp := sp) (show k < n + W.length by omega) with r | ⟨i, hi, rfl⟩ | ⟨j2, r1, r2, rfl⟩
        · rw [d1 r]; exact a2 k g1 (by omega)
        · rw [d2 hi]
          have := hlo i hi
          have hsp : mp_dep (fun k => (D k).2.2.1) p0 < mp_dep (fun k => (D k).2.2.1) sp := by
            by_cases w : sp = j
            · rw [w, mp_dep_some lt0 h2 e2]; omega
            · exact a2 sp (by omega) (by omega)
          rcases S.2 with ⟨_, w2, _⟩ | ⟨pp, w, h3, h4, h5, h6, h7⟩
          · omega
          · have := h7 (by omega)
            omega
        · rw [d3 r1 r2]; exact a2 j2 (by omega) (by omega)
      · rw [if_neg q, nd_ins_3 (by omega)]
        refine ⟨a1, fun k g1 g2 => ?_⟩
        rw [d3 (show sp ≤ p0 by omega) (by omega), show k = (k - W.length) + W.length by omega, d3 (show sp ≤ k - W.length by omega) (by omega)]
        exact a2 (k - W.length) (by omega) (by omega)
end PQ5
-- from the reader into the class's document
def as_ix (as : List Nat) (x : Nat) : Option Nat := mp_fst (fun i => decide (as.getD i 0 = x)) as.length 0
theorem as_ix_some {as : List Nat} (h : aInj as) {i : Nat} (hi : i < as.length) : as_ix as (as.getD i 0) = some i := by
  unfold as_ix
  cases e : mp_fst (fun i9 => decide (as.getD i9 0 = as.getD i 0)) as.length 0 with
  | none =>
    have := mp_fst_none _ _ e i (by omega) (by omega)
    simp at this
  | some j =>
    have := mp_fst_some _ _ e
    have h2 : as.getD j 0 = as.getD i 0 := of_decide_eq_true this.2
    rw [h j i (by omega) hi h2]
theorem as_ix_none {as : List Nat} {x : Nat} (h : ∀ i, i < as.length → as.getD i 0 ≠ x) : as_ix as x = none := by
  unfold as_ix
  cases e : mp_fst (fun i9 => decide (as.getD i9 0 = x)) as.length 0 with
  | none => rfl
  | some j =>
    have := mp_fst_some _ _ e
    exact absurd (of_decide_eq_true this.2) (h j (by omega))
def jx {α : Type} (as : List Nat) (f g : Nat → α) (x : Nat) : α := match as_ix as x with
  | some i => f i
  | none => g x
theorem jx_some {α : Type} {as : List Nat} {f g : Nat → α} (h : aInj as) {i : Nat} (hi : i < as.length) : jx as f g (as.getD i 0) = f i := by unfold jx; rw [as_ix_some h hi]
theorem jx_none {α : Type} {as : List Nat} {f g : Nat → α} {x : Nat} (h : ∀ i, i < as.length → as.getD i 0 ≠ x) : jx as f g x = g x := by unfold jx; rw [as_ix_none h]
/-- a node that has been read, for the class -/
def cNW (dA : Nat → ClassId) (h : hm_T) (z : hz_T) (Q : Nat → Prop) (op : Option Nat) (as : List Nat) (i : Nat) (w : wn) (q : Nat × Nat × Nat × Nat) : Prop := h (as.getD i 0) = some (.inr (8, [.int (nI w.1), va_rf (rPar op as w), .int (nI w.2.2.1), .ref q.1, .ref q.2.1, .int (-1), .int (-1), .ref q.2.2.1, .ref q.2.2.2])) ∧ cp_lab dA h q.1 w.2.2.2.1 ∧ ¬ Q q.1 ∧ cp_att dA h z Q q.2.1 w.2.2.2.2.1 ∧ (∃ u, z q.2.2.1 = some (u, w.2.2.2.2.2)) ∧ ∃ u, z q.2.2.2 = some (u, [])
/-- the class's pieces, and nodes that have been read -/
def cNEW (dA : Nat → ClassId) (y : Nat) (h : hm_T) (z : hz_T) (mk n : Nat) (D : Nat → nd) (m : Nat) (D2 : Nat → nd) (xs : List Nat) (rs : List Int32) (ch : Int32) (bu bv sc sv fo a aM aO aE : Nat) (N B E : Nat → Nat) (J : Nat → Int32 × Option Nat × Int32 × Nat × Nat × Int32) (V : Nat → Int32 × Nat × Nat) (ws : List Nat) (op : Option Nat) (rd d : Nat) (as : List Nat) (W : List wn) (q : Nat → Nat × Nat × Nat × Nat) : Prop :=
  cp_S h y bu sc a fo (nI rs.length) ch ∧ jb dA h bu bv xs ∧ jb dA h sc sv ws ∧ (∃ g : Nat → Int32, h fo = some (.inl (dA 0, 40, .inl g)) ∧ ∀ j, j < rs.length → g j = rs.getD j 0) ∧ cp_T dA h a aM aO aE mk n m N B E J V ∧ cp_P mk n N B J V ∧ cp_doc dA h z (cp_Q y bu bv sc sv fo a aM aO aE (mk + as.length) (cp_N2 N mk as)) B J (fun x => (V x).2.1) n D ∧ cp_doc dA h z (cp_Q y bu bv sc sv fo a aM aO aE (mk + as.length) (cp_N2 N mk as)) E J (fun x => (V x).2.2) m D2 ∧ (bu ≠ sc ∧ bv ≠ sv ∧ bv ≠ fo ∧ sv ≠ fo) ∧ ja dA h rd d as ∧ (as ≠ [] → d ≠ aM ∧ d ≠ aO ∧ d ≠ aE) ∧ as.length = W.length ∧ aInj as ∧ (∀ i, i < as.length → ∀ j, j < mk → N j ≠ as.getD i 0) ∧ ∀ i, i < as.length → cNW dA h z (cp_Q y bu bv sc sv fo a aM aO aE (mk + as.length) (cp_N2 N mk as)) op as i (W.getD i wn0) (q i)
theorem cp_att.mot {dA : Nat → ClassId} {h h1 : hm_T} {z z1 : hz_T} {Q Q2 Y : Nat → Prop} {q : Nat} {att : List (List Nat × List Nat)} (j : cp_att dA h z Q q att) (M : hm_mo h h1 Y) (Z : hz_mo z z1) (hQ : ∀ b e, h b = some e → Nat.beq (hm_tag e) 8 = false → ¬ Q b → ¬ Q2 b ∧ ¬ Y b) : cp_att dA h1 z1 Q2 q att := by
  obtain ⟨d, as, j1, n1, n2, e, r⟩ := j
  obtain ⟨mo, c1, c2⟩ := id j1
  have q1 := hQ _ _ c1 rfl n1
  have q2 : as ≠ [] → ¬ Q2 d ∧ ¬ Y d := fun ne => by
    rcases c2 with ⟨e2, _⟩ | ⟨_, n, f, c3, _⟩
    · exact absurd e2 ne
    · exact hQ _ _ c3 rfl (n2 ne)
  refine ⟨d, as, j1.mo M q1.2 (fun ne => (q2 ne).2), q1.1, fun ne => (q2 ne).1, e, fun i hi => ?_⟩
  obtain ⟨r1, r2⟩ := r i hi
  obtain ⟨p1, p2, u1, u2, c3, c4, c5⟩ := id r1
  have q3 := hQ _ _ c3 rfl r2
  exact ⟨r1.mo M Z q3.2, q3.1⟩
theorem axch {P : Nat → Nat × Nat × Nat × Nat → Prop} {n : Nat} (h : ∀ i, i < n → ∃ q, P i q) : ∃ f : Nat → Nat × Nat × Nat × Nat, ∀ i, i < n → P i (f i) := by
  have : ∀ i, ∃ q, i < n → P i q := fun i => by
    by_cases w : i < n
    · obtain ⟨q, hq⟩ := h i w; exact ⟨q, fun _ => hq⟩
    · exact ⟨(0, 0, 0, 0), fun k => absurd k w⟩
  obtain ⟨f, hf⟩ := Classical.axiomOfChoice this
  exact ⟨f, hf⟩
section PQ6
variable {dA : Nat → ClassId} {h h0 h1 : hm_T} {z z0 z1 : hz_T} {y mk n m : Nat} {D D2 : Nat → nd} {xs ws ws0 xt : List Nat} {rs : List Int32} {ch : Int32} {bu bv sc sv sv0 fo a aM aO aE : Nat} {N B E : Nat → Nat} {J : Nat → Int32 × Option Nat × Int32 × Nat × Nat × Int32} {V : Nat → Int32 × Nat × Nat} {op : Option Nat} {rd d : Nat} {as : List Nat} {W : List wn} {q : Nat → Nat × Nat × Nat × Nat}
theorem cp_N2_c {i : Nat} (hi : i < mk + as.length) : (i < mk ∧ cp_N2 N mk as i = N i) ∨ ∃ k, k < as.length ∧ i = mk + k ∧ cp_N2 N mk as i = as.getD k 0 := by
  unfold cp_N2
  by_cases w : i < mk
  · rw [if_pos w]; exact Or.inl ⟨w, rfl⟩
  · rw [if_neg w]; exact Or.inr ⟨i - mk, by omega, by omega, rfl⟩
/-- the reader's nodes and the class's pieces -/
theorem cPCS.new (C : cPCS dA y h0 z0 mk n D m D2 xs rs ch bu bv sc sv0 fo a aM aO aE N B E J V ws0) {yr tt p : Nat} {wr tm : Int32} (R : rRD dA h0 z0 sv0 op yr tt xt rd sc eNo h z p wr d as sv ws tm W) (hl : as.length = W.length) : ∃ q, cNEW dA y h z mk n D m D2 xs rs ch bu bv sc sv fo a aM aO aE N B E J V ws op rd d as W q := by
  obtain ⟨D1, RT, D3, D4, D5, D6, D7, D8, D9, D10, D11, D12, D13⟩ := R
  have C1 := C.scr D3 D9 D7 D8
  obtain ⟨S, jB, jS, ⟨g, jF, jG⟩, T, P, dd, dd2, r⟩ := C
  obtain ⟨S1, jB1, jS1, jF1, T1, P1, _, _, r1⟩ := C1
  obtain ⟨mb, nb, fb, b1, b2, br⟩ := id jB
  obtain ⟨ms, ns, fs, s1, s2, sr⟩ := id jS
  obtain ⟨fM, t2, _⟩ := id T.2.1
  obtain ⟨fO, t3, _⟩ := id T.2.2.1
  obtain ⟨fE, t4, _⟩ := id T.2.2.2.1
  -- who is new is none of before's
  have key : ∀ b, fr0 h0 sv0 b → ¬ rQ eNo yr rd d sc sv as b → (∀ i, i < as.length → as.getD i 0 ≠ b) → ¬ cp_Q y bu bv sc sv fo a aM aO aE (mk + as.length) (cp_N2 N mk as) b := fun b f nq na k => by
    have no : ∀ {c : Nat} {e : va_E}, h0 c = some e → sv0 ≠ c → b ≠ c := fun hc ns w => by
      rcases f with f | f
      · rw [w, hc] at f; cases f
      · exact ns (f.symm.trans w)
    rcases k with k | k | k | k | k | k | k
    · rcases k with k | k | k | k | ⟨i, hi, k⟩
      · exact no T.1 (hm_ne s2 T.1 rfl) k
      · exact no t2 (hm_ne s2 t2 rfl) k
      · exact no t3 (hm_ne s2 t3 rfl) k
      · exact no t4 (hm_ne s2 t4 rfl) k
      · rcases cp_N2_c (N := N) hi with ⟨w1, w2⟩ | ⟨k2, w1, _, w2⟩
        · exact no (T.2.2.2.2.1 i w1) (hm_ne s2 (T.2.2.2.2.1 i w1) rfl) (by rw [← w2]; exact k.symm)
        · exact na k2 w1 (by rw [← w2]; exact k)
    · exact no S (hm_ne s2 S rfl) k
    · exact no b1 (hm_ne s2 b1 rfl) k
    · exact no b2 (Ne.symm r.2.1) k
    · exact nq (Or.inr (Or.inr (Or.inr (Or.inl k))))
    · exact nq (Or.inr (Or.inr (Or.inr (Or.inr (Or.inl k)))))
    · exact no jF r.2.2.2 k
  have hcell := fun i (hi : i < as.length) => (D6 i (by omega)).1
  have asf : ∀ i, i < as.length → fr0 h0 sv0 (as.getD i 0) := fun i hi => by
    obtain ⟨l, aq, tx, kt, c1, n1, f1, _⟩ := hcell i hi; exact f1
  have as0 : ∀ i, i < as.length → ∀ {c : Nat} {e : va_E}, h0 c = some e → c ≠ sv0 → as.getD i 0 ≠ c := fun i hi c e hc ns w => by
    rcases asf i hi with f | f
    · rw [w, hc] at f; cases f
    · exact ns (w.symm.trans f)
  -- the old documents
  have hQ0 : ∀ (b : Nat) (e : va_E), h0 b = some e → ¬ cp_Q y bu bv sc sv0 fo a aM aO aE mk N b → ¬ cp_Q y bu bv sc sv fo a aM aO aE (mk + as.length) (cp_N2 N mk as) b := fun b e hb nq k => by
    rcases k with k | k | k | k | k | k | k
    · rcases k with k | k | k | k | ⟨i, hi, k⟩
      · exact nq (Or.inl (Or.inl k))
      · exact nq (Or.inl (Or.inr (Or.inl k)))
      · exact nq (Or.inl (Or.inr (Or.inr (Or.inl k))))
      · exact nq (Or.inl (Or.inr (Or.inr (Or.inr (Or.inl k)))))
      · rcases cp_N2_c (N := N) hi with ⟨w1, w2⟩ | ⟨k2, w1, _, w2⟩
        · exact nq (Or.inl (Or.inr (Or.inr (Or.inr (Or.inr ⟨i, w1, by rw [← w2]; exact k⟩)))))
        · exact as0 k2 w1 hb (fun w => nq (Or.inr (Or.inr (Or.inr (Or.inr (Or.inr (Or.inl w))))))) (by rw [← w2]; exact k)
    · exact nq (Or.inr (Or.inl k))
    · exact nq (Or.inr (Or.inr (Or.inl k)))
    · exact nq (Or.inr (Or.inr (Or.inr (Or.inl k))))
    · exact nq (Or.inr (Or.inr (Or.inr (Or.inr (Or.inl k)))))
    · rcases D9 with w | w
      · exact nq (Or.inr (Or.inr (Or.inr (Or.inr (Or.inr (Or.inl (k.trans w)))))))
      · rw [k, w] at hb; cases hb
    · exact nq (Or.inr (Or.inr (Or.inr (Or.inr (Or.inr (Or.inr k))))))
  have hY0 : ∀ b, (b = sc ∨ b = sv0) → cp_Q y bu bv sc sv0 fo a aM aO aE mk N b := fun b w => Or.inr (Or.inr (Or.inr (Or.inr (w.elim Or.inl (fun w => Or.inr (Or.inl w))))))
  -- the nodes
  have nw : ∀ i, i < as.length → ∃ q : Nat × Nat × Nat × Nat, cNW dA h z (cp_Q y bu bv sc sv fo a aM aO aE (mk + as.length) (cp_N2 N mk as)) op as i (W.getD i wn0) q := fun i hi => by
    obtain ⟨l, aq, tx, kt, c1, n1, f1, c2, n2, f2, c3, c4, c5⟩ := hcell i hi
    obtain ⟨lf, L1, L2⟩ := id c2
    have nas : ∀ {b : Nat} {e : va_E}, h b = some e → Nat.beq (hm_tag e) 8 = false → ∀ k, k < as.length → as.getD k 0 ≠ b := fun hb t8 k hk => by
      obtain ⟨l9, aq9, tx9, kt9, c9, _⟩ := hcell k hk
      exact Ne.symm (hm_ne hb c9 t8)
    refine ⟨(l, aq, tx, kt), c1, c2, key l f2 n2 (nas L1 rfl), c3.mot (Y := fun _ => False) hm_mo.refl hz_mo.refl (fun b e hb t8 k => ⟨key b (Classical.byContradiction (fun w => k (Or.inr w))) (fun w => k (Or.inl w)) (nas hb t8), id⟩), c4, c5⟩
  obtain ⟨q, hq⟩ := axch nw
  obtain ⟨mo4, r41, r42⟩ := id D4
  refine ⟨q, S1, jB1, jS1, jF1, T1, P1, dd.mo D7 D8 hY0 hQ0 (fun _ _ => rfl), dd2.mo D7 D8 hY0 hQ0 (fun _ _ => rfl), r1, D4, fun ne => ?_, hl, D5.2, fun i hi j hj w => as0 i hi (T.2.2.2.2.1 j hj) (hm_ne (T.2.2.2.2.1 j hj) s2 rfl) w.symm, hq⟩
  have fd := D10 ne
  have no : ∀ {c : Nat} {e : va_E}, h0 c = some e → sv0 ≠ c → d ≠ c := fun hc ns w => by
    rcases fd with f | f
    · rw [w, hc] at f; cases f
    · exact ns (f.symm.trans w)
  exact ⟨no t2 (hm_ne s2 t2 rfl), no t3 (hm_ne s2 t3 rfl), no t4 (hm_ne s2 t4 rfl)⟩
theorem cp_T.ext {J2 : Nat → Int32 × Option Nat × Int32 × Nat × Nat × Int32} {V2 : Nat → Int32 × Nat × Nat} (T : cp_T dA h a aM aO aE mk n m N B E J V) (hx : ∀ i, i < mk → J2 (N i) = J (N i) ∧ V2 (N i) = V (N i)) : cp_T dA h a aM aO aE mk n m N B E J2 V2 := by
  obtain ⟨t1, t2, t3, t4, t5, t6⟩ := T
  exact ⟨t1, t2, t3, t4, fun i hi => by unfold cp_e; rw [(hx i hi).1, (hx i hi).2]; exact t5 i hi, t6⟩
theorem cNW.mo {Q Y : Nat → Prop} {i : Nat} {w : wn} {qq : Nat × Nat × Nat × Nat} (k : cNW dA h z Q op as i w qq) (M : hm_mo h h1 Y) (hY : ∀ b, Y b → Q b) (hi : ¬ Y (as.getD i 0)) : cNW dA h1 z Q op as i w qq := by
  obtain ⟨c1, c2, c3, c4, c5⟩ := k
  exact ⟨M _ _ c1 hi, c2.mo M (fun w => c3 (hY _ w)), c3, c4.mo M hz_mo.refl hY (fun _ _ _ n => n), c5⟩
/-- all that was there is taken out -/
theorem cNEW.clear (C : cNEW dA y h z mk n D m D2 xs rs ch bu bv sc sv fo a aM aO aE N B E J V ws op rd d as W q) (T1 : cp_T dA h1 a aM aO aE mk 0 m N B E J (cp_so V B 0 n)) (F1 : cp_F h h1 a aM aO aE mk N) : cNEW dA y h1 z mk 0 D m D2 xs rs ch bu bv sc sv fo a aM aO aE N B E J (cp_so V B 0 n) ws op rd d as W q := by
  obtain ⟨S, jB, jS, ⟨g, jF, jG⟩, T, P, dd, dd2, r, jr, hd, hl, hi, hN, hw⟩ := C
  obtain ⟨mb, nb, fb, b1, b2, br⟩ := id jB
  obtain ⟨ms, ns, fs, s1, s2, sr⟩ := id jS
  obtain ⟨mo4, r41, r42⟩ := id jr
  have M := F1.mo
  have hY : ∀ b, cp_X a aM aO aE mk N b → cp_Q y bu bv sc sv fo a aM aO aE (mk + as.length) (cp_N2 N mk as) b := fun b k => Or.inl (by
    rcases k with k | k | k | k | ⟨i, hi, k⟩
    · exact Or.inl k
    · exact Or.inr (Or.inl k)
    · exact Or.inr (Or.inr (Or.inl k))
    · exact Or.inr (Or.inr (Or.inr (Or.inl k)))
    · exact Or.inr (Or.inr (Or.inr (Or.inr ⟨i, by omega, by unfold cp_N2; rw [if_pos hi]; exact k⟩))))
  have nX : ∀ i, i < as.length → ¬ cp_X a aM aO aE mk N (as.getD i 0) := fun i hii k => by
    have c1 := (hw i hii).1
    obtain ⟨fM, t2, _⟩ := id T.2.1
    obtain ⟨fO, t3, _⟩ := id T.2.2.1
    obtain ⟨fE, t4, _⟩ := id T.2.2.2.1
    rcases k with k | k | k | k | ⟨j, hj, k⟩
    · exact hm_ne c1 T.1 rfl k
    · exact hm_ne c1 t2 rfl k
    · exact hm_ne c1 t3 rfl k
    · exact hm_ne c1 t4 rfl k
    · exact hN i hii j hj k
  refine ⟨M _ _ S (cp_nX T S rfl rfl rfl), jB.mo M (cp_nX T b1 rfl rfl rfl) (cp_nX T b2 rfl rfl rfl), jS.mo M (cp_nX T s1 rfl rfl rfl) (cp_nX T s2 rfl rfl rfl), ⟨g, M _ _ jF (cp_nX T jF rfl rfl rfl), jG⟩, T1, ⟨P.1, fun k hk => absurd hk (Nat.not_lt_zero _), fun i hi _ => ?_⟩, fun k hk => absurd hk (Nat.not_lt_zero _), dd2.mo M hz_mo.refl hY (fun _ _ _ n => n) (fun k hk => ?_), r, jr.mo M (cp_nX T r41 rfl rfl rfl) (fun ne k => ?_), hd, hl, hi, hN, fun i hii => (hw i hii).mo M hY (nX i hii)⟩
  · by_cases hb : ∃ k, k < n ∧ B k = N i
    · obtain ⟨k, hk, e⟩ := hb
      have := cp_so_1 (V := V) (B := B) (f := 0) n k hk
      rw [Nat.zero_add] at this
      rw [← e]; exact this
    · rw [cp_so_o _ _ (fun j hj w => hb ⟨0 + j, by omega, w⟩)]
      exact P.2.2 i hi (fun k hk w => hb ⟨k, hk, w⟩)
  · show (cp_so V B 0 n (E k)).2.2 = _
    rw [cp_so_2]
  · rcases r42 with e | ⟨_, nn, f, c3, _⟩
    · exact absurd e.1 ne
    · obtain ⟨hd1, hd2, hd3⟩ := hd ne
      rcases k with k | k | k | k | ⟨j, hj, k⟩
      · exact hm_ne c3 T.1 rfl k
      · exact hd1 k
      · exact hd2 k
      · exact hd3 k
      · exact hm_ne (T.2.2.2.2.1 j hj) c3 rfl k
end PQ6
-- the nodes are in the document
section PQ7
variable {dA : Nat → ClassId} {h h1 : hm_T} {z : hz_T} {y mk n m : Nat} {D D2 : Nat → nd} {xs ws : List Nat} {rs : List Int32} {ch : Int32} {bu bv sc sv fo a aM aO aE : Nat} {N B E : Nat → Nat} {J : Nat → Int32 × Option Nat × Int32 × Nat × Nat × Int32} {V : Nat → Int32 × Nat × Nat} {op : Option Nat} {rd d : Nat} {as : List Nat} {W : List wn} {q : Nat → Nat × Nat × Nat × Nat} {sp od : Nat} {po : Option Nat} {ov : Bool}
def cJ2 (op : Option Nat) (mk : Nat) (as : List Nat) (W : List wn) (q : Nat → Nat × Nat × Nat × Nat) (J : Nat → Int32 × Option Nat × Int32 × Nat × Nat × Int32) : Nat → Int32 × Option Nat × Int32 × Nat × Nat × Int32 := jx as (fun i => (nI (W.getD i wn0).1, rPar op as (W.getD i wn0), nI (W.getD i wn0).2.2.1, (q i).1, (q i).2.1, nI (mk + i))) J
def cV2 (as : List Nat) (q : Nat → Nat × Nat × Nat × Nat) (V : Nat → Int32 × Nat × Nat) : Nat → Int32 × Nat × Nat := jx as (fun i => (-1, (q i).2.2.1, (q i).2.2.2)) V
theorem cp_B2_1 {k : Nat} (h : k < sp) : cp_B2 B sp as k = B k := if_pos h
theorem cp_B2_2 {i : Nat} (h : i < as.length) : cp_B2 B sp as (sp + i) = as.getD i 0 := by
  unfold cp_B2; rw [if_neg (by omega), if_pos (by omega), Nat.add_sub_cancel_left]
theorem cp_B2_3 {k : Nat} (h : sp ≤ k) : cp_B2 B sp as (k + as.length) = B k := by
  unfold cp_B2; rw [if_neg (by omega), if_neg (by omega), Nat.add_sub_cancel]
theorem cNEW.put (C : cNEW dA y h z mk n D m D2 xs rs ch bu bv sc sv fo a aM aO aE N B E J V ws op rd d as W q) (ok : nd_ok mk n D) (S9 : nd_spot n D sp po od) (I : wI od W ov) (hop : op = po.map B) (hm : mk + W.length ≤ 200) (hn : n + W.length ≤ 40) {K : hm_T → hz_T → Prop} (hK : ∀ h1, cPIC dA y h1 z (mk + W.length) (n + W.length) (nd_ins D sp mk po W) m D2 xs rs ch → K h1 z) : w_Tree_put dA a (some rd) (nI sp) K h z := by
  obtain ⟨S, jB, jS, ⟨g, jF, jG⟩, T, P, dd, dd2, r, jr, hd, hl, hi, hN, hw⟩ := C
  rw [← hl] at hm hn hK
  have hsn := S9.1
  have nas : ∀ j, j < mk → ∀ i, i < as.length → as.getD i 0 ≠ N j := fun j hj i hi w => hN i hi j hj w.symm
  have J2o : ∀ j, j < mk → cJ2 op mk as W q J (N j) = J (N j) ∧ cV2 as q V (N j) = V (N j) := fun j hj => ⟨jx_none (nas j hj), jx_none (nas j hj)⟩
  have J2n : ∀ i, i < as.length → cJ2 op mk as W q J (as.getD i 0) = (nI (W.getD i wn0).1, rPar op as (W.getD i wn0), nI (W.getD i wn0).2.2.1, (q i).1, (q i).2.1, nI (mk + i)) := fun i hii => jx_some hi hii
  have V2n : ∀ i, i < as.length → cV2 as q V (as.getD i 0) = (-1, (q i).2.2.1, (q i).2.2.2) := fun i hii => jx_some hi hii
  have T2 : cp_T dA h a aM aO aE mk n m N B E (cJ2 op mk as W q J) (cV2 as q V) := T.ext J2o
  have hinj : ∀ k, k < as.length → ∀ i, i < mk + k → cp_N2 N mk as i ≠ as.getD k 0 := fun k hk i hi2 w => by
    rcases cp_N2_c (N := N) (mk := mk) (as := as) (i := i) (by omega) with ⟨w1, w2⟩ | ⟨k2, w1, w3, w2⟩
    · rw [w2] at w; exact hN k hk i w1 w
    · rw [w2] at w
      have := hi k2 k w1 hk w
      omega
  refine cp_putT (sp := sp) T2 jr hm hn hsn (fun k hk => by rw [J2n k hk]) hinj (fun ne => ⟨(hd ne).1, (hd ne).2.1⟩) (fun j hj => by unfold cp_e0; rw [J2n j hj, V2n j hj]; exact (hw j hj).1) (fun h1 T3 F3 => hK h1 ?_)
  obtain ⟨mb, nb, fb, b1, b2, br⟩ := id jB
  obtain ⟨ms, ns, fs, s1, s2, sr⟩ := id jS
  have M := F3.mo
  have hY : ∀ b, cp_X a aM aO aE (mk + as.length) (cp_N2 N mk as) b → cp_Q y bu bv sc sv fo a aM aO aE (mk + as.length) (cp_N2 N mk as) b := fun b k => Or.inl k
  have nX : ∀ {b : Nat} {e : va_E}, h b = some e → Nat.beq (hm_tag e) 1 = false → Nat.beq (hm_tag e) 8 = false → Nat.beq (hm_tag e) 104 = false → ¬ cp_X a aM aO aE (mk + as.length) (cp_N2 N mk as) b := fun hb h1 h8 h104 k => by
    rcases k with k | k | k | k | ⟨i, hi2, k⟩
    · exact cp_nX T hb h1 h8 h104 (Or.inl k)
    · exact cp_nX T hb h1 h8 h104 (Or.inr (Or.inl k))
    · exact cp_nX T hb h1 h8 h104 (Or.inr (Or.inr (Or.inl k)))
    · exact cp_nX T hb h1 h8 h104 (Or.inr (Or.inr (Or.inr (Or.inl k))))
    · rcases cp_N2_c (N := N) hi2 with ⟨w1, w2⟩ | ⟨k2, w1, _, w2⟩
      · exact cp_nX T hb h1 h8 h104 (Or.inr (Or.inr (Or.inr (Or.inr ⟨i, w1, by rw [← w2]; exact k⟩))))
      · rw [w2] at k
        exact hm_ne hb (hw k2 w1).1 h8 k.symm
  have hB := cp_Bi P ok.1
  have Bas : ∀ k, k < n → ∀ i, i < as.length → B k ≠ as.getD i 0 := fun k hk i hii w => by
    obtain ⟨j, o1, o2⟩ := T.2.2.2.2.2.1 k hk
    exact hN i hii j o1 (o2.trans w)
  have B2i : ∀ i j, i < n + as.length → j < n + as.length → cp_B2 B sp as i = cp_B2 B sp as j → i = j := fun i j h1 h2 e => by
    have c1 := nd_ins_c (W := W) (sp := sp) (n := n) (k := i) (by omega)
    have c2 := nd_ins_c (W := W) (sp := sp) (n := n) (k := j) (by omega)
    rw [← hl] at c1 c2
    rcases c1 with q1 | ⟨i1, hi1, rfl⟩ | ⟨j1, a1, a2, rfl⟩
    · rw [cp_B2_1 q1] at e
      rcases c2 with q2 | ⟨i2, hi2, rfl⟩ | ⟨j2, b1, b2, rfl⟩
      · rw [cp_B2_1 q2] at e; exact hB i j (by omega) (by omega) e
      · rw [cp_B2_2 hi2] at e; exact absurd e (Bas i (by omega) i2 hi2)
      · rw [cp_B2_3 b1] at e
        have := hB i j2 (by omega) b2 e
        omega
    · rw [cp_B2_2 hi1] at e
      rcases c2 with q2 | ⟨i2, hi2, rfl⟩ | ⟨j2, b1, b2, rfl⟩
      · rw [cp_B2_1 q2] at e; exact absurd e.symm (Bas j (by omega) i1 hi1)
      · rw [cp_B2_2 hi2] at e
        have := hi i1 i2 hi1 hi2 e
        omega
      · rw [cp_B2_3 b1] at e; exact absurd e.symm (Bas j2 b2 i1 hi1)
    · rw [cp_B2_3 a1] at e
      rcases c2 with q2 | ⟨i2, hi2, rfl⟩ | ⟨j2, b1, b2, rfl⟩
      · rw [cp_B2_1 q2] at e
        have := hB j1 j a2 (by omega) e
        omega
      · rw [cp_B2_2 hi2] at e; exact absurd e (Bas j1 a2 i2 hi2)
      · rw [cp_B2_3 b1] at e
        have := hB j1 j2 a2 b2 e
        omega
  have JB : ∀ k, k < n → cJ2 op mk as W q J (B k) = J (B k) ∧ cV2 as q V (B k) = V (B k) := fun k hk => by
    obtain ⟨j, o1, o2⟩ := T.2.2.2.2.2.1 k hk
    rw [← o2]; exact J2o j o1
  have JE : ∀ k, k < m → cJ2 op mk as W q J (E k) = J (E k) ∧ cV2 as q V (E k) = V (E k) := fun k hk => by
    obtain ⟨j, o1, o2⟩ := T.2.2.2.2.2.2.1 k hk
    rw [← o2]; exact J2o j o1
  have dd' := dd.mo (tf2 := fun x => (V x).2.1) M hz_mo.refl hY (fun _ _ _ n => n) (fun _ _ => rfl)
  have dd2' := dd2.mo (tf2 := fun x => (V x).2.2) M hz_mo.refl hY (fun _ _ _ n => n) (fun _ _ => rfl)
  have lt0 : ∀ k, k < n → ∀ p, (D k).2.2.1 = some p → p < k := fun k hk p e => (ok.2 k hk).2.2.1 p e
  refine ⟨bu, bv, sc, sv, fo, a, aM, aO, aE, cp_N2 N mk as, cp_B2 B sp as, E, cJ2 op mk as W q J, _, ws, M _ _ S (nX S rfl rfl rfl), jB.mo M (nX b1 rfl rfl rfl) (nX b2 rfl rfl rfl), jS.mo M (nX s1 rfl rfl rfl) (nX s2 rfl rfl rfl), ⟨g, M _ _ jF (nX jF rfl rfl rfl), jG⟩, T3, ⟨fun i hi2 => ?_, fun k hk => ?_, fun i hi2 nb => ?_⟩, fun k hk => ?_, fun k hk => ?_, r⟩
  · rcases cp_N2_c (N := N) hi2 with ⟨w1, w2⟩ | ⟨k2, w1, w3, w2⟩
    · rw [w2, (J2o i w1).1]; exact P.1 i w1
    · rw [w2, J2n k2 w1, w3]
  · exact cp_sp_1 (n := n + as.length) B2i _ (Nat.le_refl _) k hk
  · rw [cp_sp_o _ _ (fun j hj => nb j hj)]
    rcases cp_N2_c (N := N) hi2 with ⟨w1, w2⟩ | ⟨k2, w1, w3, w2⟩
    · rw [w2, (J2o i w1).2]
      refine P.2.2 i w1 (fun k hk w => ?_)
      by_cases q1 : k < sp
      · exact nb k (by omega) (by rw [cp_B2_1 q1, w2]; exact w)
      · exact nb (k + as.length) (by omega) (by rw [cp_B2_3 (by omega), w2]; exact w)
    · exact absurd (show cp_B2 B sp as (sp + k2) = cp_N2 N mk as i by rw [cp_B2_2 w1, w2]) (nb (sp + k2) (by omega))
  · have c1 := nd_ins_c (W := W) (sp := sp) (n := n) (k := k) (by omega)
    rcases c1 with q1 | ⟨i, hi1, rfl⟩ | ⟨j, a1, a2, rfl⟩
    · rw [cp_B2_1 q1, nd_ins_1 q1, (JB k (by omega)).1]
      obtain ⟨e1, e2, e3, e4, e5, e6, e7, u, e8⟩ := dd' k (by omega)
      refine ⟨e1, ?_, ?_, e4, e5, e6, e7, u, ?_⟩
      · rw [e2]
        cases e : (D k).2.2.1 with
        | none => rfl
        | some p =>
          show some (B p) = some (cp_B2 B sp as p)
          rw [cp_B2_1 (by have := lt0 k (by omega) p e; omega)]
      · rw [nd_ins_d1 ok S9 I q1]; exact e3
      · show z (cp_sp (cV2 as q V) (cp_B2 B sp as) (n + as.length) (B k)).2.1 = _
        rw [cp_sp_2, (JB k (by omega)).2]; exact e8
    · have hi2 : i < as.length := by omega
      rw [cp_B2_2 hi2, nd_ins_2 hi1, J2n i hi2]
      obtain ⟨c1, c2, c3, c4, ⟨u, c5⟩, c6⟩ := (hw i hi2)
      have hni : ¬ (as.getD i 0 = a ∨ False) := fun w => w.elim (hm_ne c1 T.1 rfl) id
      refine ⟨rfl, ?_, ?_, rfl, c2.mo M (fun w => c3 (Or.inl w)), c3, c4.mo M hz_mo.refl hY (fun _ _ _ n => n), u, ?_⟩
      · show rPar op as (W.getD i wn0) = (nd_wp sp po (W.getD i wn0).2.1).map (cp_B2 B sp as)
        unfold rPar nd_wp
        cases e : (W.getD i wn0).2.1 with
        | none =>
          show op = po.map (cp_B2 B sp as)
          rw [hop]
          cases e9 : po with
          | none => rfl
          | some pp =>
            show some (B pp) = some (cp_B2 B sp as pp)
            rcases S9.2 with ⟨w, _⟩ | ⟨pp2, w, h3, _⟩
            · rw [w] at e9; cases e9
            · rw [w] at e9; cases e9; rw [cp_B2_1 h3]
        | some j =>
          have := ((I.par hi1).2 j e).1
          show some (as.getD j 0) = some (cp_B2 B sp as (sp + j))
          rw [cp_B2_2 (by omega)]
      · rw [nd_ins_d2 ok S9 I hi1]
      · show z (cp_sp (cV2 as q V) (cp_B2 B sp as) (n + as.length) (as.getD i 0)).2.1 = _
        rw [cp_sp_2, V2n i hi2]; exact c5
    · rw [nd_ins_3 a1]
      rw [← hl]
      rw [cp_B2_3 a1, (JB j a2).1]
      obtain ⟨e1, e2, e3, e4, e5, e6, e7, u, e8⟩ := dd' j a2
      refine ⟨e1, ?_, ?_, e4, e5, e6, e7, u, ?_⟩
      · rw [e2]
        show _ = ((D j).2.2.1.map (nd_sf sp as.length)).map (cp_B2 B sp as)
        cases e : (D j).2.2.1 with
        | none => rfl
        | some p =>
          show some (B p) = some (cp_B2 B sp as (nd_sf sp as.length p))
          unfold nd_sf
          by_cases q1 : p < sp
          · rw [if_pos q1, cp_B2_1 q1]
          · rw [if_neg q1, cp_B2_3 (by omega)]
      · have := nd_ins_d3 (mk := mk) ok S9 I a1 a2
        rw [← hl] at this
        rw [this]; exact e3
      · show z (cp_sp (cV2 as q V) (cp_B2 B sp as) (n + as.length) (B j)).2.1 = _
        rw [cp_sp_2, (JB j a2).2]; exact e8
  · rw [(JE k hk).1]
    obtain ⟨e1, e2, e3, e4, e5, e6, e7, u, e8⟩ := dd2' k hk
    refine ⟨e1, e2, e3, e4, e5, e6, e7, u, ?_⟩
    show z (cp_sp (cV2 as q V) (cp_B2 B sp as) (n + as.length) (E k)).2.2 = _
    rw [cp_sp_2, (JE k hk).2]; exact e8
/-- the batch begins -/
theorem pc_begin (I : cPIC dA y h z mk n D m D2 xs rs ch) {K : hm_T → hz_T → Prop} (hK : ∀ h1, cPIC dA y h1 z mk n D n D xs rs 0 → K h1 z) : w_Store_beginBatch dA y K h z := by
  obtain ⟨bu, bv, sc, sv, fo, a, aM, aO, aE, N, B, E, J, V, ws, S, jB, jS, ⟨g, jF, jG⟩, T, P, d, d2, r⟩ := I
  refine cp_beginBatch S T (fun h1 S1 T1 M1 => hK h1 ?_)
  obtain ⟨mb, nb, fb, b1, b2, br⟩ := id jB
  obtain ⟨ms, ns, fs, s1, s2, sr⟩ := id jS
  have hY : ∀ b, (cp_X a aM aO aE mk N b ∨ b = y) → cp_Q y bu bv sc sv fo a aM aO aE mk N b := fun b q => q.elim Or.inl (fun q => Or.inr (Or.inl q))
  have hn : ∀ {b : Nat} {e : va_E}, h b = some e → Nat.beq (hm_tag e) 1 = false → Nat.beq (hm_tag e) 8 = false → Nat.beq (hm_tag e) 104 = false → Nat.beq (hm_tag e) 0 = false → ¬ (cp_X a aM aO aE mk N b ∨ b = y) := fun hb t1 t8 t104 t0 q => q.elim (cp_nX T hb t1 t8 t104) (hm_ne hb S t0)
  refine ⟨bu, bv, sc, sv, fo, a, aM, aO, aE, N, B, B, J, cp_kp V B n, ws, S1, jB.mo M1 (hn b1 rfl rfl rfl rfl) (hn b2 rfl rfl rfl rfl), jS.mo M1 (hn s1 rfl rfl rfl rfl) (hn s2 rfl rfl rfl rfl), ⟨g, M1 _ _ jF (hn jF rfl rfl rfl rfl), jG⟩, T1, ⟨P.1, fun k hk => ?_, fun i hi q => ?_⟩, d.mo M1 hz_mo.refl hY (fun b e _ q => q) (fun k hk => (cp_kp_1 n (B k)).2), d.mo M1 hz_mo.refl hY (fun b e _ q => q) (fun k hk => cp_kp_2 n k hk), r⟩
  · rw [(cp_kp_1 n (B k)).1]; exact P.2.1 k hk
  · rw [(cp_kp_1 n (N i)).1]; exact P.2.2 i hi q
end PQ7
-- load: the class
/-- what load answers and leaves -/
abbrev lR : Type := Nat ⊕ Option (List wn)
def a_load (mk : Nat) (xs : List Nat) : lR := match p_doc xs with
  | .inl e => .inl e
  | .inr (W, ov) => if a_over W ov = true ∨ 40 < W.length ∨ 200 < mk + W.length then .inr none else .inr (some W)
section PQ8
variable {dA : Nat → ClassId} {h : hm_T} {z : hz_T} {y mk n m : Nat} {D D2 : Nat → nd} {xs : List Nat} {rs : List Int32} {ch : Int32}
/-- a fresh cell, and the buffer is used: the world before the reader's cell -/
theorem pc_useNew {ws : List Nat} {bu bv sc sv fo a aM aO aE : Nat} {N B E : Nat → Nat} {J : Nat → Int32 × Option Nat × Int32 × Nat × Nat × Int32} {V : Nat → Int32 × Nat × Nat} (C : cPCS dA y h z mk n D m D2 xs rs ch bu bv sc sv fo a aM aO aE N B E J V ws) {q : Nat} (hq : h q = none) {e0 : va_E} {c s : Nat} (hc : 3 ≤ c) (hs : 288 ≤ s) {K : Option Nat → hm_T → hz_T → Prop} (hK : ∀ (t : Nat) (h2 : hm_T) (z2 : hz_T), (∃ u, z2 t = some (u, xs)) → cPCS dA y (hm_del h2 q) z2 mk n D m D2 [] rs ch bu bv sc sv fo a aM aO aE N B E J V ws → h2 q = some e0 → h2 y = some (.inr (0, [.ref bu, .ref sc, .ref a, .ref fo, .int (nI rs.length), .int ch])) → K (some t) h2 z2) : w_Store_useBuffer dA y c s K (hm_u h q e0) z := by
  have C0 := C
  obtain ⟨S, jB, jS, jF, T, P, d, d2, r⟩ := C
  obtain ⟨mb, nb, fb, b1, b2, br⟩ := id jB
  have nq : ∀ {b : Nat} {e : va_E}, h b = some e → b ≠ q := fun hb w => by rw [w, hq] at hb; cases hb
  have M0 : hm_mo h (hm_u h q e0) (fun _ => False) := fun b e hb _ => by rw [hm_n (nq hb)]; exact hb
  have S1 : cp_S (hm_u h q e0) y bu sc a fo (nI rs.length) ch := M0 _ _ S id
  refine cp_useBuffer S1 (jB.mo M0 id id) hc hs (fun t h2 z2 e1 jB2 M2 Z2 => hK t h2 z2 e1 ?_ ?_ ?_)
  · have M3 : hm_mo h (hm_del h2 q) (fun b => b = bu ∨ b = bv) := fun b e hb n => by
      rw [hm_del_o (nq hb)]
      exact M2 _ _ (M0 _ _ hb id) (fun w => n (Or.inl w))
    obtain ⟨mb2, nb2, fb2, c1, c2, cr⟩ := jB2
    exact C0.buf ⟨mb2, nb2, fb2, by rw [hm_del_o (nq b1)]; exact c1, by rw [hm_del_o (nq b2)]; exact c2, cr⟩ (Or.inl rfl) M3 Z2
  · exact M2 _ _ hm_s (Ne.symm (nq b1))
  · exact M2 _ _ S1 (hm_ne S b1 rfl)
theorem pc_load (I : cPIC dA y h z mk n D m D2 xs rs ch) (ok : aOK mk n D m D2 xs rs) {c s : Nat} (hc : 40 * xs.length + 50 ≤ c) (hs : 2600 * xs.length + 3000 ≤ s) {K : Int32 → hm_T → hz_T → Prop} (k1 : ∀ e h1 z1, a_load mk xs = .inl e → cPIC dA y h1 z1 mk n D m D2 [] rs ch → K (-1 - nI e) h1 z1) (k2 : a_load mk xs = .inr none → ∀ h1 z1, cPIC dA y h1 z1 mk n D m D2 [] rs ch → K (-2000) h1 z1) (k3 : ∀ W h1 z1, a_load mk xs = .inr (some W) → cPIC dA y h1 z1 (mk + W.length) W.length (nd_ins D 0 mk none W) W.length (nd_ins D 0 mk none W) [] rs 0 → K (nI W.length) h1 z1) : w_Store_load dA y c s K h z := by
  obtain ⟨bu, bv, sc, sv, fo, a, aM, aO, aE, N, B, E, J, V, ws, C⟩ := I
  have C : cPCS dA y h z mk n D m D2 xs rs ch bu bv sc sv fo a aM aO aE N B E J V ws := C
  have hx120 : xs.length ≤ 120 := ok.2.2.2.1
  have hx128 : ∀ c ∈ xs, c < 128 := fun c hc => by have := ok.2.2.2.2.1 c hc; omega
  have hmk := ok.2.2.1
  have el : a_load mk xs = match p_doc xs with
    | .inl e => .inl e
    | .inr (W, ov) => if a_over W ov = true ∨ 40 < W.length ∨ 200 < mk + W.length then .inr none else .inr (some W) := rfl
  unfold w_Store_load w_Store_load_67
  refine cg_new_of (by omega) (by omega) (fun q hq => ?_)
  have yq : y ≠ q := fun w => by have := C.1; unfold cp_S at this; rw [w, hq] at this; cases this
  refine cg_c_of (show (hm_u h q _) y = _ by rw [hm_n yq]; exact C.1) (cg_rm_of (c1 := 3) (s1 := 288) (by omega) (by omega) (pc_useNew C hq (Nat.le_refl _) (Nat.le_refl _) (fun t h2 z2 e2 C2 q2 y2 => ?_)))
  refine cg_R_ref y2 rfl (cg_c_of q2 (cg_rm_of (c1 := 1) (s1 := 3) (by omega) (by omega) (rl_init q2 rfl (Nat.le_refl _) (Nat.le_refl _) (fun h3 rd R3 j3 hrd M3 => ?_))))
  have J0 : jb dA (hm_del h2 q) sc sv ws := C2.2.2.1
  have D3 := rl_start (op := none) J0 R3 j3 hrd M3 ⟨e2, hx120, hx128⟩
  refine cg_c_of R3 (cg_rm_of (c1 := 40 * xs.length + 41) (s1 := 2600 * xs.length + 2601) (by omega) (by omega) (rl_doc J0 D3 (Nat.le_refl _) (Nat.le_refl _) (fun W ov e h4 z4 p4 d4 as4 sv4 ws4 D4 l4 => ?_) (fun e9 e he h4 z4 sv4 p4 tm4 ws4 R4 j4 s4 M4 Z4 => ?_)))
  · rw [e] at el
    simp only [] at el
    obtain ⟨wI4, _, hWl⟩ := p_doc_S hx128 (by omega) e
    refine cg_c_of D4.1 (rl_failed0 D4.1 (if_yes rfl ?_))
    obtain ⟨mo4, r41, r42⟩ := id D4.2.2.2.1
    refine cg_R_ref D4.1 rfl (cg_d_of ⟨d4, as4.length, mo4, r41, cg_c_of D4.1 (rl_limits D4 l4 (by omega) (fun i hi => by have := (wI4.1 i hi).2.2.1; omega) ?_)⟩)
    obtain ⟨qf, C4⟩ := C2.new D4 l4
    have P4 : cPIC dA y h4 z4 mk n D m D2 [] rs ch := (C2.scr D4.2.2.1 D4.2.2.2.2.2.2.2.2.1 D4.2.2.2.2.2.2.1 D4.2.2.2.2.2.2.2.1).pic
    obtain ⟨S4, _, _, _, T4, _⟩ := id C4
    rw [l4]
    cases eo : a_over W ov with
    | true =>
      rw [if_pos (Or.inl eo)] at el
      exact if_no (by decide) (k2 el h4 z4 P4)
    | false =>
      refine if_yes rfl ?_
      by_cases g1 : 40 < W.length
      · rw [if_pos (Or.inr (Or.inl g1))] at el
        exact if_yes (nI_lt (a := 40) g1 (by omega)) (k2 el h4 z4 P4)
      refine if_no (nI_nlt (a := 40) (b := W.length) (by omega) (by omega)) (cg_R_ref S4 rfl (cg_d_of (cg_c_of T4.1 ?_)))
      unfold w_Tree_mayMake
      refine cg_I_of T4.1 rfl ?_
      rw [nI_add]
      by_cases g2 : 200 < mk + W.length
      · rw [if_pos (Or.inr (Or.inr g2))] at el
        exact if_yes (nI_lt (a := 200) g2 (by omega)) (if_yes rfl (k2 el h4 z4 P4))
      rw [if_neg (fun w => by rcases w with w | w | w; · rw [eo] at w; cases w
                              · exact g1 w
                              · exact g2 w)] at el
      refine if_no (nI_nlt (a := 200) (b := mk + W.length) (by omega) (by omega)) (if_no (by decide) (cg_R_ref S4 rfl (cg_d_of (cg_c_of T4.1 (cp_clear T4 (fun h5 T5 F5 => ?_))))))
      have C5 := C4.clear T5 F5
      have S5 := C5.1
      have y5 : h5 q = some (r6c t p4 (-1) rd sc (tmI ov)) := F5.mo _ _ D4.1 (cp_nX T4 D4.1 rfl rfl rfl)
      refine cg_R_ref S5 rfl (cg_R_ref y5 rfl (cg_d_of (cg_c_of T5.1 ?_)))
      have eov : ov = false := by unfold a_over at eo; rw [Bool.or_eq_false_iff] at eo; exact eo.1
      refine C5.put (sp := 0) (od := 0) (po := none) (ov := ov) ⟨by omega, fun k hk => absurd hk (Nat.not_lt_zero _)⟩ ⟨Nat.le_refl _, Or.inl ⟨rfl, rfl, rfl⟩⟩ wI4 rfl (by omega) (by omega) (fun h6 P6 => ?_)
      rw [Nat.zero_add] at P6
      obtain ⟨bu6, bv6, sc6, sv6, fo6, a6, aM6, aO6, aE6, N6, B6, E6, J6, V6, ws6, S6, _⟩ := id P6
      exact cg_c_of S6 (pc_begin P6 (fun h7 P7 => k3 W h7 z4 el P7))
  · rw [e] at el
    simp only [] at el
    refine cg_c_of R4 (rl_failed1 R4 (by omega) (if_no (by decide) (cg_I_of R4 rfl (k1 e9 h4 z4 el (C2.scr j4 s4 M4 Z4).pic))))
end PQ8
