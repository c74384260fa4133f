-- reading: the reader's world
/-- a node as it is read: kind, index of its parent, depth, label, attributes, text -/
abbrev wn : Type := Nat × Option Nat × Nat × List Int32 × List (List Nat × List Nat) × List Nat
def wn0 : wn := (0, none, 0, [], [], [])
/-- the cells that reading writes -/
def rQ (E : Nat → Prop) (y rd d sc sv : Nat) (as : List Nat) (b : Nat) : Prop := b = y ∨ b = rd ∨ (b = d ∧ as ≠ []) ∨ b = sc ∨ b = sv ∨ E b
def eNo (_ : Nat) : Prop := False
/-- no cell of before -/
def fr0 (h0 : hm_T) (sv0 b : Nat) : Prop := h0 b = none ∨ b = sv0
def rPar (op : Option Nat) (as : List Nat) (w : wn) : Option Nat := match w.2.1 with
  | none => op
  | some j => some (as.getD j 0)
/-- a node that has been read lies at x -/
def rN (dA : Nat → ClassId) (h0 : hm_T) (sv0 : Nat) (op : Option Nat) (h : hm_T) (z : hz_T) (Q : Nat → Prop) (as : List Nat) (x : Nat) (w : wn) : Prop := ∃ l aq tx kt : Nat, h x = some (.inr (8, [.int (nI w.1), va_rf (rPar op as w), .int (nI w.2.2.1), .ref l, .ref aq, .int (-1), .int (-1), .ref tx, .ref kt])) ∧ ¬ Q x ∧ fr0 h0 sv0 x ∧ cp_lab dA h l w.2.2.2.1 ∧ ¬ Q l ∧ fr0 h0 sv0 l ∧ cp_att dA h z (fun b => Q b ∨ ¬ fr0 h0 sv0 b) aq w.2.2.2.2.1 ∧ (∃ u, z tx = some (u, w.2.2.2.2.2)) ∧ ∃ u, z kt = some (u, [])
def aInj (as : List Nat) : Prop := ∀ i j, i < as.length → j < as.length → as.getD i 0 = as.getD j 0 → i = j
def rRD (dA : Nat → ClassId) (h0 : hm_T) (z0 : hz_T) (sv0 : Nat) (op : Option Nat) (y tt : Nat) (xs : List Nat) (rd sc : Nat) (E : Nat → Prop) (h : hm_T) (z : hz_T) (p : Nat) (wr : Int32) (d : Nat) (as : List Nat) (sv : Nat) (ws : List Nat) (tm : Int32) (W : List wn) : Prop :=
  h y = some (r6c tt p wr rd sc tm) ∧ rT z tt xs ∧ jb dA h sc sv ws ∧ ja dA h rd d as ∧ (W.length ≤ as.length ∧ aInj as) ∧ (∀ i, i < W.length → rN dA h0 sv0 op h z (rQ E y rd d sc sv as) as (as.getD i 0) (W.getD i wn0) ∧ ∀ j, (W.getD i wn0).2.1 = some j → j < i) ∧ hm_mo h0 h (fun b => b = sc ∨ b = sv0) ∧ hz_mo z0 z ∧ (sv = sv0 ∨ h0 sv = none) ∧ (as ≠ [] → fr0 h0 sv0 d) ∧ h0 y = none ∧ h0 rd = none ∧ (tm = 0 ∨ tm = 1)
/-- it has failed at e -/
def rEr (dA : Nat → ClassId) (h0 : hm_T) (z0 : hz_T) (sv0 y tt rd sc e : Nat) (K : hm_T → hz_T → Prop) : Prop := ∀ (h1 : hm_T) (z1 : hz_T) (sv1 p1 : Nat) (tm1 : Int32) (ws1 : List Nat), h1 y = some (r6c tt p1 (nI e) rd sc tm1) → jb dA h1 sc sv1 ws1 → (sv1 = sv0 ∨ h0 sv1 = none) → hm_mo h0 h1 (fun b => b = sc ∨ b = sv0) → hz_mo z0 z1 → K h1 z1
section PL7
variable {dA : Nat → ClassId} {h0 : hm_T} {z0 : hz_T} {sv0 : Nat} {op : Option Nat} {y tt : Nat} {xs : List Nat} {rd sc : Nat} {h h1 : hm_T} {z z1 : hz_T} {p p1 : Nat} {wr wr1 : Int32} {d : Nat} {as : List Nat} {sv sv1 : Nat} {ws ws1 : List Nat} {tm tm1 : Int32} {W : List wn} {E E2 : Nat → Prop}
theorem rN.mo {Q Q2 Y : Nat → Prop} {x : Nat} {w : wn} {as2 : List Nat} (n : rN dA h0 sv0 op h z Q as x w) (M : hm_mo h h1 Y) (Z : hz_mo z z1) (hY : ∀ b, Y b → Q b ∨ ¬ fr0 h0 sv0 b) (hQ : ∀ b e, h b = some e → ¬ Q b → fr0 h0 sv0 b → ¬ Q2 b) (hp : rPar op as2 w = rPar op as w) : rN dA h0 sv0 op h1 z1 Q2 as2 x w := by
  obtain ⟨l, aq, tx, kt, c1, n1, f1, c2, n2, f2, c3, ⟨u, c4⟩, u2, c5⟩ := n
  have nY : ∀ b, ¬ Q b → fr0 h0 sv0 b → ¬ Y b := fun b n f w => (hY b w).elim n (fun k => k f)
  obtain ⟨f, c2a, c2b⟩ := id c2
  refine ⟨l, aq, tx, kt, by rw [hp]; exact M _ _ c1 (nY _ n1 f1), hQ _ _ c1 n1 f1, f1, c2.mo M (nY _ n2 f2), hQ _ _ c2a n2 f2, f2, c3.mo M Z hY (fun b e hb k w => ?_), ⟨u, Z _ _ c4⟩, u2, Z _ _ c5⟩
  have k1 : ¬ Q b := fun q => k (Or.inl q)
  have k2 : fr0 h0 sv0 b := Classical.byContradiction (fun q => k (Or.inr q))
  rcases w with w | w
  · exact hQ b e hb k1 k2 w
  · exact w k2
/-- a step that wrote the reader and the scratch -/
theorem rRD.mo (D : rRD dA h0 z0 sv0 op y tt xs rd sc E h z p wr d as sv ws tm W) (R : h1 y = some (r6c tt p1 wr1 rd sc tm1)) (j : jb dA h1 sc sv1 ws1) (hs : sv1 = sv ∨ h sv1 = none) (M : hm_mo h h1 (fun b => b = y ∨ b = sc ∨ b = sv)) (Z : hz_mo z z1) (ht : tm1 = 0 ∨ tm1 = 1) : rRD dA h0 z0 sv0 op y tt xs rd sc E h1 z1 p1 wr1 d as sv1 ws1 tm1 W := by
  obtain ⟨D1, D2, D3, D4, D5, D6, D7, D8, D9, D10, D11, D12, D13⟩ := D
  obtain ⟨mb, nb, fb, b1, b2, br⟩ := id D3
  obtain ⟨mo, r1, r2⟩ := id D4
  obtain ⟨mb1, nb1, fb1, e1, e2, er⟩ := id j
  have nd' : as ≠ [] → ¬ (d = y ∨ d = sc ∨ d = sv) := fun e => by
    rcases r2 with ⟨e9, _⟩ | ⟨_, n, f, c3, _⟩
    · exact absurd e9 e
    · exact fun w => w.elim (hm_ne c3 D1 rfl) (fun w => w.elim (hm_ne c3 b1 rfl) (hm_ne c3 b2 rfl))
  have nrd : ¬ (rd = y ∨ rd = sc ∨ rd = sv) := fun w => w.elim (hm_ne r1 D1 rfl) (fun w => w.elim (hm_ne r1 b1 rfl) (hm_ne r1 b2 rfl))
  have hs0 : sv1 = sv0 ∨ h0 sv1 = none := by
    refine sv_chain (Y := fun b => b = sc ∨ b = sv0) (sv := sv0) D7 (fun b w => w.elim (fun w => Or.inr (by rw [w, b1]; simp)) Or.inl) D9 hs
  refine ⟨R, D2.mo Z, j, D4.mo M nrd nd', D5, fun i hi => ⟨(D6 i hi).1.mo M Z (fun b w => Or.inl ?_) (fun b e hb n f w => ?_) rfl, (D6 i hi).2⟩, fun b e hb n => ?_, D8.trans Z, hs0, D10, D11, D12, ht⟩
  · rcases w with w | w | w
    · exact Or.inl w
    · exact Or.inr (Or.inr (Or.inr (Or.inl w)))
    · exact Or.inr (Or.inr (Or.inr (Or.inr (Or.inl w))))
  · rcases w with w | w | w | w | w | w
    · exact n (Or.inl w)
    · exact n (Or.inr (Or.inl w))
    · exact n (Or.inr (Or.inr (Or.inl w)))
    · exact n (Or.inr (Or.inr (Or.inr (Or.inl w))))
    · rcases hs with q | q
      · exact n (Or.inr (Or.inr (Or.inr (Or.inr (Or.inl (w.trans q))))))
      · rw [w, q] at hb; cases hb
    · exact n (Or.inr (Or.inr (Or.inr (Or.inr (Or.inr w)))))
  · have n1 : b ≠ sc := fun w => n (Or.inl w)
    have n2 : b ≠ sv0 := fun w => n (Or.inr w)
    refine M b e (D7 b e hb n) (fun w => ?_)
    rcases w with w | w | w
    · rw [w, D11] at hb; cases hb
    · exact n1 w
    · rcases D9 with q | q
      · exact n2 (w.trans q)
      · rw [w, q] at hb; cases hb
/-- a step that wrote the reader alone -/
theorem rRD.mo1 (D : rRD dA h0 z0 sv0 op y tt xs rd sc E h z p wr d as sv ws tm W) (R : h1 y = some (r6c tt p1 wr1 rd sc tm1)) (M : hm_mo h h1 (fun b => b = y)) (Z : hz_mo z z1) (ht : tm1 = 0 ∨ tm1 = 1) : rRD dA h0 z0 sv0 op y tt xs rd sc E h1 z1 p1 wr1 d as sv ws tm1 W := by
  have D0 := D
  obtain ⟨D1, D2, D3, r⟩ := D
  obtain ⟨mb, nb, fb, b1, b2, br⟩ := id D3
  exact D0.mo R (D3.mo M (hm_ne b1 D1 rfl) (hm_ne b2 D1 rfl)) (Or.inl rfl) (M.weak (fun b w => Or.inl w)) Z ht
/-- from the reader's world to its error -/
theorem rRD.er (D : rRD dA h0 z0 sv0 op y tt xs rd sc E h z p wr d as sv ws tm W) {e : Nat} (hw : wr = nI e) {K : hm_T → hz_T → Prop} (k : rEr dA h0 z0 sv0 y tt rd sc e K) : K h z := by
  obtain ⟨D1, D2, D3, D4, D5, D6, D7, D8, D9, r⟩ := D
  exact k h z sv p tm ws (by rw [← hw]; exact D1) D3 D9 D7 D8
theorem rl_take' (D : rRD dA h0 z0 sv0 op y tt xs rd sc E h z p wr d as sv ws tm W) (hp : p < 2 ^ 30) {c : Nat} (hc : c < 128) {K : Int32 → hm_T → hz_T → Prop} (k1 : xs.getD p 0 = c → ∀ h1, rRD dA h0 z0 sv0 op y tt xs rd sc E h1 z (p + 1) wr d as sv ws tm W → K 1 h1 z) (k0 : xs.getD p 0 ≠ c → rEr dA h0 z0 sv0 y tt rd sc p (K 0)) : w_TextReader_take6 dA y (nI c) K h z := rl_take D.1 D.2.1 hp hc (fun q h1 R1 M1 => k1 q h1 (D.mo1 R1 M1 hz_mo.refl D.2.2.2.2.2.2.2.2.2.2.2.2)) (fun q h1 R1 M1 => (D.mo1 R1 M1 hz_mo.refl D.2.2.2.2.2.2.2.2.2.2.2.2).er rfl (k0 q))
theorem rl_fail' (D : rRD dA h0 z0 sv0 op y tt xs rd sc E h z p wr d as sv ws tm W) {i : Nat} {K : Int32 → hm_T → hz_T → Prop} (k0 : rEr dA h0 z0 sv0 y tt rd sc i (K 0)) : w_TextReader_failAt6 dA y (nI i) K h z := rl_failAt D.1 (fun h1 R1 M1 => (D.mo1 R1 M1 hz_mo.refl D.2.2.2.2.2.2.2.2.2.2.2.2).er rfl k0)
/-- what is new to the map was none of before's -/
theorem rRD.fr (D : rRD dA h0 z0 sv0 op y tt xs rd sc E h z p wr d as sv ws tm W) {b : Nat} (hb : h b = none) : fr0 h0 sv0 b := by
  obtain ⟨D1, D2, D3, D4, D5, D6, D7, r⟩ := D
  obtain ⟨mb, nb, fb, b1, b2, br⟩ := id D3
  cases e : h0 b with
  | none => exact Or.inl e
  | some f =>
    by_cases w2 : b = sv0
    · exact Or.inr w2
    exfalso
    have n1 : b ≠ sc := fun w => by rw [w, b1] at hb; cases hb
    rw [D7 _ _ e (fun w => w.elim n1 w2)] at hb
    cases hb
/-- a step that wrote cells of the node that is being read, and made some that belong to it -/
theorem rRD.own (D : rRD dA h0 z0 sv0 op y tt xs rd sc E h z p wr d as sv ws tm W) {Y : Nat → Prop} (R : h1 y = some (r6c tt p1 wr1 rd sc tm1)) (j : jb dA h1 sc sv1 ws1) (hs : sv1 = sv ∨ h sv1 = none) (M : hm_mo h h1 Y) (hY : ∀ b, Y b → b = y ∨ b = sc ∨ b = sv ∨ (E b ∧ fr0 h0 sv0 b ∧ b ≠ rd ∧ (as ≠ [] → b ≠ d))) (Z : hz_mo z z1) (ht : tm1 = 0 ∨ tm1 = 1) (hE : ∀ b e, h b = some e → E2 b → E b ∨ b = sv ∨ b = y ∨ b = sc) : rRD dA h0 z0 sv0 op y tt xs rd sc E2 h1 z1 p1 wr1 d as sv1 ws1 tm1 W := by
  have D0 := D
  obtain ⟨D1, D2, D3, D4, D5, D6, D7, D8, D9, D10, D11, D12, D13⟩ := D
  obtain ⟨mb, nb, fb, b1, b2, br⟩ := id D3
  obtain ⟨mo, r1, r2⟩ := id D4
  have nrd : ¬ Y rd := fun w => by
    rcases hY rd w with w | w | w | w
    · exact hm_ne r1 D1 rfl w
    · exact hm_ne r1 b1 rfl w
    · exact hm_ne r1 b2 rfl w
    · exact w.2.2.1 rfl
  have nd' : as ≠ [] → ¬ Y d := fun e w => by
    rcases r2 with ⟨e9, _⟩ | ⟨_, n, f, c3, _⟩
    · exact absurd e9 e
    · rcases hY d w with w | w | w | w
      · exact hm_ne c3 D1 rfl w
      · exact hm_ne c3 b1 rfl w
      · exact hm_ne c3 b2 rfl w
      · exact w.2.2.2 e rfl
  have hs0 : sv1 = sv0 ∨ h0 sv1 = none := sv_chain (Y := fun b => b = sc ∨ b = sv0) (sv := sv0) D7 (fun b w => w.elim (fun w => Or.inr (by rw [w, b1]; simp)) Or.inl) D9 hs
  refine ⟨R, D2.mo Z, j, D4.mo M nrd nd', D5, fun i hi => ⟨(D6 i hi).1.mo M Z (fun b w => Or.inl ?_) (fun b e hb n f w => ?_) rfl, (D6 i hi).2⟩, fun b e hb n => ?_, D8.trans Z, hs0, D10, D11, D12, ht⟩
  · rcases hY b w with w | w | w | w
    · exact Or.inl w
    · exact Or.inr (Or.inr (Or.inr (Or.inl w)))
    · exact Or.inr (Or.inr (Or.inr (Or.inr (Or.inl w))))
    · exact Or.inr (Or.inr (Or.inr (Or.inr (Or.inr w.1))))
  · rcases w with w | w | w | w | w | w
    · exact n (Or.inl w)
    · exact n (Or.inr (Or.inl w))
    · exact n (Or.inr (Or.inr (Or.inl w)))
    · exact n (Or.inr (Or.inr (Or.inr (Or.inl w))))
    · rcases hs with q | q
      · exact n (Or.inr (Or.inr (Or.inr (Or.inr (Or.inl (w.trans q))))))
      · rw [w, q] at hb; cases hb
    · rcases hE b e hb w with k | k | k | k
      · exact n (Or.inr (Or.inr (Or.inr (Or.inr (Or.inr k)))))
      · exact n (Or.inr (Or.inr (Or.inr (Or.inr (Or.inl k)))))
      · exact n (Or.inl k)
      · exact n (Or.inr (Or.inr (Or.inr (Or.inl k))))
  · have n1 : b ≠ sc := fun w => n (Or.inl w)
    have n2 : b ≠ sv0 := fun w => n (Or.inr w)
    refine M b e (D7 b e hb n) (fun w => ?_)
    rcases hY b w with w | w | w | w
    · rw [w, D11] at hb; cases hb
    · exact n1 w
    · rcases D9 with q | q
      · exact n2 (w.trans q)
      · rw [w, q] at hb; cases hb
    · rcases w.2.1 with q | q
      · rw [q] at hb; cases hb
      · exact n2 q
/-- a node more in the list: its cells may be written -/
theorem rRD.pend (D : rRD dA h0 z0 sv0 op y tt xs rd sc eNo h z p wr d as sv ws tm W) {x d1 : Nat} (R : h1 y = some (r6c tt p wr rd sc tm)) (j1 : jb dA h1 sc sv ws) (jr : ja dA h1 rd d1 (as ++ [x])) (hd : (d1 = d ∧ as ≠ []) ∨ h d1 = none) (M : hm_mo h h1 (fun b => b = rd ∨ (b = d ∧ as ≠ []))) (hE : ∀ b, E2 b → h b = none) (hx : ∀ i, i < as.length → as.getD i 0 ≠ x) : rRD dA h0 z0 sv0 op y tt xs rd sc E2 h1 z p wr d1 (as ++ [x]) sv ws tm W := by
  have D0 := D
  obtain ⟨D1, D2, D3, D4, D5, D6, D7, D8, D9, D10, D11, D12, D13⟩ := D
  have frd : fr0 h0 sv0 d1 := by
    rcases hd with ⟨q, e⟩ | q
    · rw [q]; exact D10 e
    · exact D0.fr q
  have D51 := D5.1
  refine ⟨R, D2, j1, jr, ⟨by rw [List.length_append]; omega, fun i j hi hj e => ?_⟩, fun i hi => ?_, fun b e hb n => ?_, D8, D9, fun _ => frd, D11, D12, D13⟩
  · rw [List.length_append] at hi hj
    simp only [List.length_cons, List.length_nil] at hi hj
    by_cases q1 : i < as.length
    · rw [getD_app_l q1] at e
      by_cases q2 : j < as.length
      · rw [getD_app_l q2] at e
        exact D5.2 i j q1 q2 e
      · have e9 : j = as.length := by omega
        subst e9
        rw [getD_app_r] at e
        exact absurd e (hx i q1)
    · have e9 : i = as.length := by omega
      subst e9
      rw [getD_app_r] at e
      by_cases q2 : j < as.length
      · rw [getD_app_l q2] at e
        exact absurd e.symm (hx j q2)
      · omega
  · rw [getD_app_l (show i < as.length by omega)]
    refine ⟨(D6 i hi).1.mo M hz_mo.refl (fun b k => Or.inl ?_) (fun b e hb n f k => ?_) ?_, (D6 i hi).2⟩
    · rcases k with k | k
      · exact Or.inr (Or.inl k)
      · exact Or.inr (Or.inr (Or.inl k))
    · rcases k with k | k | k | k | k | k
      · exact n (Or.inl k)
      · exact n (Or.inr (Or.inl k))
      · rcases hd with q2 | q2
        · exact n (Or.inr (Or.inr (Or.inl ⟨k.1.trans q2.1, q2.2⟩)))
        · rw [k.1, q2] at hb; cases hb
      · exact n (Or.inr (Or.inr (Or.inr (Or.inl k))))
      · exact n (Or.inr (Or.inr (Or.inr (Or.inr (Or.inl k)))))
      · rw [hE b k] at hb; cases hb
    · unfold rPar
      cases e9 : (W.getD i wn0).2.1 with
      | none => rfl
      | some jj =>
        have := (D6 i hi).2 jj e9
        show some ((as ++ [x]).getD jj 0) = some (as.getD jj 0)
        rw [getD_app_l (by omega)]
  · refine M b e (D7 b e hb n) (fun k => ?_)
    rcases k with k | ⟨k, e9⟩
    · rw [k, D12] at hb; cases hb
    · rcases D10 e9 with q | q
      · rw [k, q] at hb; cases hb
      · exact n (Or.inr (k.trans q))
/-- the node has been read -/
theorem rRD.done (D : rRD dA h0 z0 sv0 op y tt xs rd sc E h z p wr d as sv ws tm W) (hl : as.length = W.length + 1) {w : wn} (hn : rN dA h0 sv0 op h z (rQ eNo y rd d sc sv as) as (as.getD W.length 0) w) (hw : ∀ j, w.2.1 = some j → j < W.length) : rRD dA h0 z0 sv0 op y tt xs rd sc eNo h z p wr d as sv ws tm (W ++ [w]) := by
  obtain ⟨D1, D2, D3, D4, D5, D6, D7, D8, D9, D10, D11, D12, D13⟩ := D
  refine ⟨D1, D2, D3, D4, ⟨by rw [List.length_append, hl]; exact Nat.le_refl _, D5.2⟩, fun i hi => ?_, D7, D8, D9, D10, D11, D12, D13⟩
  rw [List.length_append] at hi
  by_cases q : i < W.length
  · have eW : (W ++ [w]).getD i wn0 = W.getD i wn0 := by rw [List.getD_eq_getElem?_getD, List.getElem?_append_left q, ← List.getD_eq_getElem?_getD]
    rw [eW]
    refine ⟨(D6 i q).1.mo (Y := eNo) hm_mo.refl hz_mo.refl (fun b k => k.elim) (fun b e hb n f k => ?_) rfl, (D6 i q).2⟩
    rcases k with k | k | k | k | k | k
    · exact n (Or.inl k)
    · exact n (Or.inr (Or.inl k))
    · exact n (Or.inr (Or.inr (Or.inl k)))
    · exact n (Or.inr (Or.inr (Or.inr (Or.inl k))))
    · exact n (Or.inr (Or.inr (Or.inr (Or.inr (Or.inl k)))))
    · exact k
  · have e9 : i = W.length := by simp at hi; omega
    subst e9
    have eW : (W ++ [w]).getD W.length wn0 = w := by rw [List.getD_eq_getElem?_getD, List.getElem?_append_right (Nat.le_refl _), Nat.sub_self]; rfl
    rw [eW]
    exact ⟨hn, hw⟩
end PL7
