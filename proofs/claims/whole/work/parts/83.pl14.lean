-- reading: the element's end
theorem p_end_ok {xs : List Nat} : ∀ (nm : List Nat) (p : Nat), (∀ k, k < nm.length → xs.getD (p + k) 0 = nm.getD k 0) → xs.getD (p + nm.length) 0 = 62 → p_end xs nm p = .inr (p + nm.length + 1) := by
  intro nm
  induction nm with
  | nil => intro p _ h; unfold p_end; rw [if_pos (show xs.getD p 0 = 62 from h)]; rfl
  | cons c nm ih =>
    intro p h1 h2
    unfold p_end
    rw [if_pos (show xs.getD p 0 = c from h1 0 (by simp)), ih (p + 1) (fun k hk => by have := h1 (k + 1) (by simp; omega); rw [show p + 1 + k = p + (k + 1) by omega]; exact this) (by rw [show p + 1 + nm.length = p + (c :: nm).length by simp; omega]; exact h2)]
    simp; omega
theorem p_end_er {xs : List Nat} : ∀ (nm : List Nat) (p k : Nat), k ≤ nm.length → (∀ j, j < k → xs.getD (p + j) 0 = nm.getD j 0) → (if k < nm.length then xs.getD (p + k) 0 ≠ nm.getD k 0 else xs.getD (p + k) 0 ≠ 62) → p_end xs nm p = .inl (p + k) := by
  intro nm
  induction nm with
  | nil =>
    intro p k hk _ h
    have : k = 0 := by simpa using hk
    subst this
    rw [if_neg (by simp)] at h
    unfold p_end
    rw [if_neg (show ¬ xs.getD p 0 = 62 from h)]; rfl
  | cons c nm ih =>
    intro p k hk h1 h2
    unfold p_end
    cases k with
    | zero =>
      rw [if_pos (by simp)] at h2
      rw [if_neg (show ¬ xs.getD p 0 = c from h2)]; rfl
    | succ k =>
      rw [if_pos (show xs.getD p 0 = c from h1 0 (by omega)), ih (p + 1) k (by simpa using hk) (fun j hj => by have := h1 (j + 1) (by omega); rw [show p + 1 + j = p + (j + 1) by omega]; exact this) ?_]
      · rw [show p + 1 + k = p + (k + 1) by omega]
      · rw [show p + 1 + k = p + (k + 1) by omega]
        by_cases w : k < nm.length
        · rw [if_pos w]
          rw [if_pos (by simp; omega)] at h2
          exact h2
        · rw [if_neg w]
          rw [if_neg (by simp; omega)] at h2
          exact h2
/-- what follows the attributes -/
def p_tail (PC : Nat → Nat → List Int32 → Nat → List wn → Bool → pR) (xs : List Nat) (par : Option Nat) (dep : Nat) (lab : List Int32) (nm : List Nat) (W : List wn) (q : Nat) (att : List (List Nat × List Nat)) (ov1 : Bool) : pR :=
  if xs.getD q 0 = 47 then (if xs.getD (q + 1) 0 = 62 then .inr (q + 2, W ++ [(1, par, dep, lab, att, nm)], ov1 || decide (3 < att.length)) else .inl (q + 1)) else if xs.getD q 0 ≠ 62 then .inl q else match PC W.length (dep + 1) lab (q + 1) (W ++ [(1, par, dep, lab, att, nm)]) (ov1 || decide (3 < att.length)) with
    | .inl e => .inl e
    | .inr (q2, W2, ov3) => match p_end xs nm (q2 + 2) with
      | .inl e => .inl e
      | .inr q3 => .inr (q3, W2, ov3)
theorem p_elem_tail {PC : Nat → Nat → List Int32 → Nat → List wn → Bool → pR} {xs : List Nat} {par : Option Nat} {dep : Nat} {lab : List Int32} {p : Nat} {W : List wn} {ov : Bool} : p_elem PC xs par dep lab p W ov = match p_atts xs 130 (p + 1 + a_let xs (p + 1)) [] ov with
  | .inl e => .inl e
  | .inr (q, att, ov1) => p_tail PC xs par dep lab ((xs.drop (p + 1)).take (a_let xs (p + 1))) W q att ov1 := rfl
def ptC (r : pR) (p : Nat) : Nat := match r with
  | .inl e => 40 * (e - p) + 40
  | .inr (q, _) => 40 * (q - p)
def ptS (r : pR) (p : Nat) : Nat := match r with
  | .inl e => 2600 * (e - p) + 2600
  | .inr (q, _) => 2600 * (q - p)
theorem p_tail_le {xs : List Nat} {PC : Nat → Nat → List Int32 → Nat → List wn → Bool → pR} {N : Nat} (hC : pOKc xs PC (fun _ dep => 1 ≤ dep ∧ dep ≤ 6 ∧ 6 ≤ N + dep)) {par : Option Nat} {dep : Nat} {lab : List Int32} {nm : List Nat} {W : List wn} {q : Nat} {att : List (List Nat × List Nat)} {ov1 : Bool} (g2 : dep ≤ 5) (g3 : 6 ≤ N + 1 + dep) (hnn : ∀ c ∈ nm, c ≠ 0) (hq : q ≤ xs.length) : (∀ e, p_tail PC xs par dep lab nm W q att ov1 = .inl e → q ≤ e ∧ e ≤ xs.length) ∧ ∀ q3 W3 ov3, p_tail PC xs par dep lab nm W q att ov1 = .inr (q3, W3, ov3) → q + 1 ≤ q3 ∧ q3 ≤ xs.length := by
  unfold p_tail
  by_cases a1 : xs.getD q 0 = 47
  · rw [if_pos a1]
    have := getD_pos a1 (by decide)
    by_cases a2 : xs.getD (q + 1) 0 = 62
    · rw [if_pos a2]
      have := getD_pos a2 (by decide)
      exact ⟨fun e8 w => (by cases w), fun q W1 ov1 w => by cases w; omega⟩
    · rw [if_neg a2]; exact ⟨fun e8 w => by cases w; omega, fun q W1 ov1 w => by cases w⟩
  · rw [if_neg a1]
    by_cases a2 : xs.getD q 0 = 62
    · rw [if_neg (fun w => w a2)]
      have := getD_pos a2 (by decide)
      have I := hC W.length (dep + 1) lab (q + 1) (W ++ [(1, par, dep, lab, att, nm)]) (ov1 || decide (3 < att.length)) (by omega) (fun p => ⟨by omega, by omega, by omega⟩)
      cases e2 : PC W.length (dep + 1) lab (q + 1) (W ++ [(1, par, dep, lab, att, nm)]) (ov1 || decide (3 < att.length)) with
      | inl e9 => exact ⟨fun e8 w => by cases w; have := I.1 _ e2; omega, fun q W1 ov1 w => by cases w⟩
      | inr x2 =>
        obtain ⟨q2, W2, ov3⟩ := x2
        obtain ⟨d1, d2, W4, d3, d4⟩ := I.2 _ _ _ e2
        have T := p_end_le (xs := xs) nm (q2 + 2) hnn d2
        simp only []
        cases e3 : p_end xs nm (q2 + 2) with
        | inl e9 => exact ⟨fun e8 w => by cases w; have := T.1 _ e3; omega, fun q W1 ov1 w => by cases w⟩
        | inr q3 =>
          have := T.2 _ e3
          exact ⟨fun e8 w => (by cases w), fun q W1 ov1 w => by cases w; omega⟩
    · rw [if_pos a2]; exact ⟨fun e8 w => by cases w; omega, fun q W1 ov1 w => by cases w⟩
theorem tl_room1 {q e c s : Nat} (h : q + 1 ≤ e) (hc : 40 * (e - q) + 40 ≤ c) (hs : 2600 * (e - q) + 2600 ≤ s) : 40 * (e - (q + 1)) + 41 ≤ c ∧ 2600 * (e - (q + 1)) + 2640 ≤ s := by omega
theorem tl_room2 {q q2 e c s : Nat} (h : q2 ≤ e) (hc : 40 * (e - q) ≤ c) (hs : 2600 * (e - q) ≤ s) : 40 * (q2 - (q + 1)) ≤ c ∧ 2600 * (q2 - (q + 1)) ≤ s := by omega
section PL14
variable {dA : Nat → ClassId} {h0 : hm_T} {z0 : hz_T} {sv0 : Nat} {op : Option Nat} {od y tt : Nat} {xs : List Nat} {rd sc : Nat} {ws0 : List Nat} {h h1 : hm_T} {z : hz_T} {p p1 d : Nat} {as : List Nat} {sv : Nat} {ws : List Nat} {ov : Bool} {tm1 : Int32} {W : List wn} {par : Option Nat} {dep l x aq : Nat} {lab : List Int32} {nm : List Nat} {ad : Nat} {aas : List Nat} {att : List (List Nat × List Nat)}
/-- the start tag is read: the reader alone has been written since -/
theorem rPe.fin (Pe : rPe dA h0 z0 sv0 op y tt xs rd sc par dep l lab x aq nm h z p d as sv ws ov W ad aas att) (hl : as.length = W.length) (hp : ∀ j, par = some j → j < W.length) (R : h1 y = some (r6c tt p1 (-1) rd sc tm1)) (M : hm_mo h h1 (fun b => b = y)) (ht : tm1 = 0 ∨ tm1 = 1) : rRD dA h0 z0 sv0 op y tt xs rd sc eNo h1 z p1 (-1) d (as ++ [x]) sv ws tm1 (W ++ [(1, par, dep, lab, att, nm)]) := by
  obtain ⟨D, ⟨t, e2, c1, zt, ze⟩, j, el, ra, hL, nQ, hal, ha⟩ := Pe
  have ny : ∀ b, rC x aq l ad aas b → ¬ b = y := fun b k w => (nQ b k).1 (Or.inl w)
  have nq2 : ∀ b, rC x aq l ad aas b → ¬ (rQ eNo y rd d sc sv (as ++ [x]) b ∨ ¬ fr0 h0 sv0 b) := fun b k w => w.elim (nQ b k).1 (fun w => w (nQ b k).2)
  have Cx : rC x aq l ad aas x := Or.inl rfl
  have Ca : rC x aq l ad aas aq := Or.inr (Or.inl rfl)
  have Cl : rC x aq l ad aas l := Or.inr (Or.inr (Or.inl rfl))
  refine (D.mo1 R M hz_mo.refl ht).done (by rw [List.length_append, hl]; rfl) ?_ hp
  rw [← hl, getD_app_r]
  refine ⟨l, aq, t, e2, M _ _ c1 (ny _ Cx), (nQ _ Cx).1, (nQ _ Cx).2, hL.mo M (ny _ Cl), (nQ _ Cl).1, (nQ _ Cl).2, ⟨ad, aas, j.mo M (ny _ Ca) (fun n => ny _ (Or.inr (Or.inr (Or.inr (Or.inl ⟨rfl, n⟩))))), nq2 _ Ca, fun n => nq2 _ (Or.inr (Or.inr (Or.inr (Or.inl ⟨rfl, n⟩)))), el, fun i hi => ?_⟩, zt, ze⟩
  have Ci : rC x aq l ad aas (aas.getD i 0) := Or.inr (Or.inr (Or.inr (Or.inr ⟨i, by rw [el]; exact hi, rfl⟩)))
  obtain ⟨p1, p2, u1, u2, k1, k2, k3⟩ := ra i hi
  exact ⟨⟨p1, p2, u1, u2, M _ _ k1 (ny _ Ci), k2, k3⟩, nq2 _ Ci⟩
theorem getD_wn_r {W W2 : List wn} {w : wn} : (W ++ [w] ++ W2).getD W.length wn0 = w := by
  rw [List.append_assoc, List.getD_eq_getElem?_getD, List.getElem?_append_right (Nat.le_refl _), Nat.sub_self]; rfl
theorem getD_ax {as : List Nat} {x : Nat} {as1 : List Nat} {W : List wn} (hl : as.length = W.length) (a : aext (as ++ [x]) as1) : as1.getD W.length 0 = x := by
  rw [a _ (by rw [List.length_append, ← hl]; simp), ← hl, getD_app_r]
/-- an element behind its attributes -/
theorem rl_elem70 {P : Nat → Option Nat → Nat → Nat → (Int32 → hm_T → hz_T → Prop) → hm_T → hz_T → Prop} {PC : Nat → Nat → List Int32 → Nat → List wn → Bool → pR} {N : Nat} (hP : rImpC dA h0 z0 sv0 op y tt xs rd sc P PC N) (hC : pOKc xs PC (fun _ dep => 1 ≤ dep ∧ dep ≤ 6 ∧ 6 ≤ N + dep)) {K : Int32 → hm_T → hz_T → Prop} {c s : Nat} (Pe : rPe dA h0 z0 sv0 op y tt xs rd sc par dep l lab x aq nm h z p d as sv ws ov W ad aas att) (hl : as.length = W.length) (hp : ∀ j, par = some j → j < W.length) (g2 : dep ≤ 5) (g3 : 6 ≤ N + 1 + dep) (hll : lab.length ≤ 18 + dep) (hnn : ∀ c ∈ nm, c ≠ 0) (hcn : ∀ c ∈ nm, c < 128) (hnl : nm.length ≤ 6) (hq : p ≤ xs.length) (hW : W.length ≤ p) (hc : ptC (p_tail PC xs par dep lab nm W p att ov) p ≤ c) (hs : ptS (p_tail PC xs par dep lab nm W p att ov) p ≤ s)
    (kok : ∀ q W1 ov1, p_tail PC xs par dep lab nm W p att ov = .inr (q, W1, ov1) → ∀ (h1 : hm_T) (z1 : hz_T) (d1 : Nat) (as1 : List Nat) (sv1 : Nat) (ws1 : List Nat), rRD dA h0 z0 sv0 op y tt xs rd sc eNo h1 z1 q (-1) d1 as1 sv1 ws1 (tmI ov1) W1 → as1.length = W1.length → aext as as1 → K 1 h1 z1)
    (kerr : ∀ e, p_tail PC xs par dep lab nm W p att ov = .inl e → rEr dA h0 z0 sv0 y tt rd sc e (K 0)) : w_MarkupReader_readElement_70 dA P y K (some x) c s h z := by
  have Pe0 := Pe
  obtain ⟨D, ⟨t, e2, c1, zt, ze⟩, j, el, ra, hL, nQ, hal, ha⟩ := Pe
  have hlen := D.2.1.2.1
  have hcx := D.2.1.2.2
  have ep : p_tail PC xs par dep lab nm W p att ov = if xs.getD p 0 = 47 then (if xs.getD (p + 1) 0 = 62 then .inr (p + 2, W ++ [(1, par, dep, lab, att, nm)], ov || decide (3 < att.length)) else .inl (p + 1)) else if xs.getD p 0 ≠ 62 then .inl p else match PC W.length (dep + 1) lab (p + 1) (W ++ [(1, par, dep, lab, att, nm)]) (ov || decide (3 < att.length)) with
    | .inl e => .inl e
    | .inr (q2, W2, ov3) => match p_end xs nm (q2 + 2) with
      | .inl e => .inl e
      | .inr q3 => .inr (q3, W2, ov3) := rfl
  have fin : ∀ w0 : Int32, (w0 = 0 ∨ w0 = 1) → w0 = tmI (ov || decide (3 < att.length)) → w_MarkupReader_readElement_94 dA P y K (some x) w0 c s h z := by
    intro w0 hw0 hw
    unfold w_MarkupReader_readElement_94
    refine ⟨hw0, cg_p_of D.1 (show 5 < 6 by decide) ?_⟩
    have M : ∀ e, hm_mo h (hm_u h y e) (fun b => b = y) := fun e => hm_mo.u rfl
    have Dn := Pe0.fin (h1 := hm_u h y (r6c tt p (-1) rd sc w0)) (p1 := p) (tm1 := w0) hl hp hm_s (M _) hw0
    have lenA : (as ++ [x]).length = (W ++ [((1, par, dep, lab, att, nm) : wn)]).length := by rw [List.length_append, List.length_append, hl]; rfl
    have axA : aext as (as ++ [x]) := fun i hi => getD_app_l hi
    refine cg_I_of Dn.1 rfl (cg_c_of Dn.1 (rl_seen Dn.1 Dn.2.1 (by omega) ?_))
    have h1l := getD_lt hcx p
    by_cases a1 : xs.getD p 0 = 47
    · rw [if_pos a1] at ep
      have := getD_pos a1 (by decide)
      refine if_yes (by rw [a1]; rfl) (cg_I_of Dn.1 rfl (cg_p_of Dn.1 (show 1 < 6 by decide) ?_))
      rw [nI_1]
      have Dm := Dn.mo1 (h1 := hm_u (hm_u h y (r6c tt p (-1) rd sc w0)) y (r6c tt (p + 1) (-1) rd sc w0)) (p1 := p + 1) (tm1 := w0) hm_s (hm_mo.u rfl) hz_mo.refl hw0
      refine cg_c_of Dm.1 (rl_take' (c := 62) Dm (by omega) (by decide) (fun g h2 D2 => ?_) (fun g h2 z2 sv2 p2 tm2 ws2 b1 b2 b3 b4 b5 => ?_))
      · rw [if_pos g] at ep
        exact ⟨Or.inr rfl, kok _ _ _ ep h2 z d (as ++ [x]) sv ws (by rw [← hw]; exact D2) lenA axA⟩
      · rw [if_neg g] at ep
        exact ⟨Or.inl rfl, kerr _ ep h2 z2 sv2 p2 tm2 ws2 b1 b2 b3 b4 b5⟩
    · rw [if_neg a1] at ep
      refine if_no (fun w => a1 ((nI_eq (b := 47) (by omega) (by decide)).mp w)) (cg_c_of Dn.1 (rl_take' (c := 62) Dn (by omega) (by decide) (fun g h2 D2 => ?_) (fun g h2 z2 sv2 p2 tm2 ws2 b1 b2 b3 b4 b5 => ?_)))
      · rw [if_neg (fun w => w g)] at ep
        have hpl := getD_pos g (by decide)
        have I := hC W.length (dep + 1) lab (p + 1) (W ++ [(1, par, dep, lab, att, nm)]) (ov || decide (3 < att.length)) (by omega) (fun p => ⟨by omega, by omega, by omega⟩)
        have eW : (W ++ [((1, par, dep, lab, att, nm) : wn)]).getD W.length wn0 = (1, par, dep, lab, att, nm) := by have := getD_wn_r (W := W) (W2 := []) (w := (1, par, dep, lab, att, nm)); rwa [List.append_nil] at this
        have room : pccC (PC W.length (dep + 1) lab (p + 1) (W ++ [(1, par, dep, lab, att, nm)]) (ov || decide (3 < att.length))) (p + 1) ≤ c ∧ pccS (PC W.length (dep + 1) lab (p + 1) (W ++ [(1, par, dep, lab, att, nm)]) (ov || decide (3 < att.length))) (p + 1) ≤ s := by
          cases e2 : PC W.length (dep + 1) lab (p + 1) (W ++ [(1, par, dep, lab, att, nm)]) (ov || decide (3 < att.length)) with
          | inl e9 =>
            rw [e2] at ep
            rw [ep] at hc hs
            exact tl_room1 (I.1 _ e2).1 hc hs
          | inr x2 =>
            obtain ⟨q2, W2, ov3⟩ := x2
            obtain ⟨d1, d2, W4, d3, d4⟩ := I.2 _ _ _ e2
            have T := p_end_le (xs := xs) nm (q2 + 2) hnn d2
            rw [e2] at ep
            simp only [] at ep
            cases e3 : p_end xs nm (q2 + 2) with
            | inl e9 =>
              rw [e3] at ep
              rw [ep] at hc hs
              have := T.1 _ e3
              have R := tl_room2 (q := p) (q2 := q2) (e := e9) (c := c) (s := s) (by omega) (Nat.le_trans (Nat.le_add_right _ 40) hc) (Nat.le_trans (Nat.le_add_right _ 2600) hs)
              exact R
            | inr q3 =>
              rw [e3] at ep
              rw [ep] at hc hs
              have := T.2 _ e3
              exact tl_room2 (by omega) hc hs
        rw [hw] at D2
        refine if_no (by decide) (cg_c_of D2.1 (cg_rm_of (c1 := c) (s1 := s) (Nat.le_refl _) (Nat.le_refl _) ?_))
        have hx : some x = some ((as ++ [x]).getD W.length 0) := by rw [← hl, getD_app_r]
        rw [hx]
        refine hP h2 z (p + 1) d (as ++ [x]) sv ws _ _ W.length dep lab c s _ D2 lenA (by rw [List.length_append]; simp) (by rw [List.length_append]; simp; omega) (by omega) (by rw [eW]) (by rw [eW]) hll g2 (by omega) room.1 room.2 (fun q2 W2 ov3 e h3 z3 d3 as3 sv3 ws3 D3 l3 a3 => ?_) (fun e9 e h3 z3 sv3 p3 tm3 ws3 b1 b2 b3 b4 b5 => ?_)
        · rw [e] at ep
          simp only [] at ep
          obtain ⟨d1, d2, W4, d3', d4⟩ := I.2 _ _ _ e
          refine if_no (by decide) (cg_c_of D3.1 ?_)
          have hj : W.length < W2.length := by rw [d3', List.length_append, List.length_append]; simp; omega
          have N3 := (D3.2.2.2.2.2.1 W.length hj).1
          rw [getD_ax hl a3, d3', getD_wn_r] at N3
          obtain ⟨l9, aq9, tx9, kt9, k1, _, _, _, _, _, _, ⟨u9, k2⟩, _⟩ := N3
          have kxy : x ≠ y := hm_ne k1 D3.1 rfl
          have e5 : (as ++ [x]).getD W.length 0 = x := by rw [← hl, getD_app_r]
          rw [e5]
          unfold w_MarkupReader_readEndTag
          refine cg_I_of D3.1 rfl (cg_p_of D3.1 (show 1 < 6 by decide) ?_)
          have e22 : nI q2 + 2 = nI (q2 + 2) := by rw [show (2 : Int32) = nI 2 from rfl, nI_add]
          rw [e22]
          have M4 : ∀ e, hm_mo h3 (hm_u h3 y e) (fun b => b = y) := fun e => hm_mo.u rfl
          refine rl_endTagL (x := x) D3.2.1 (tx := tx9) (nm := nm) rfl k2 (by omega) hcn kxy nm.length mF 0 (q2 + 2) _ (by omega) (by unfold mF; omega) (by omega) hm_s (M4 _ _ _ k1 kxy) (fun o1 o2 h5 R5 M5 => ?_) (fun e9 ⟨k, o1, o2, o3, o4⟩ h5 p5 R5 M5 => ?_)
          · have o1' : ∀ k, k < nm.length → xs.getD (q2 + 2 + k) 0 = nm.getD k 0 := fun k hk => by have := o1 k hk; rwa [Nat.zero_add] at this
            rw [p_end_ok nm (q2 + 2) o1' o2] at ep
            simp only [] at ep
            exact if_no (by decide) (kok _ _ _ ep h5 z3 d3 as3 sv3 ws3 (D3.mo1 R5 ((M4 _).trans M5) hz_mo.refl (tmI_01 _)) l3 (fun i hi => (a3 i (by rw [List.length_append]; omega)).trans (getD_app_l hi)))
          · have o3' : ∀ j, j < k → xs.getD (q2 + 2 + j) 0 = nm.getD j 0 := fun j hj => by have := o3 j hj; rwa [Nat.zero_add] at this
            rw [Nat.zero_add] at o4
            rw [p_end_er nm (q2 + 2) k o1 o3' o4] at ep
            simp only [] at ep
            exact if_yes rfl ((D3.mo1 R5 ((M4 _).trans M5) hz_mo.refl (tmI_01 _)).er (by rw [o2]) (kerr _ ep))
        · rw [e] at ep
          simp only [] at ep
          exact if_yes rfl (kerr _ ep h3 z3 sv3 p3 tm3 ws3 b1 b2 b3 b4 b5)
      · rw [if_pos g] at ep
        exact if_yes rfl (kerr _ ep h2 z2 sv2 p2 tm2 ws2 b1 b2 b3 b4 b5)
  obtain ⟨mo, j1, j2⟩ := id j
  unfold w_MarkupReader_readElement_70 w_MarkupReader_readElement_89
  refine cg_I_of D.1 rfl ?_
  cases ov with
  | true => exact if_no (by decide) (fin 1 (Or.inr rfl) (by rw [Bool.true_or]; rfl))
  | false =>
    refine if_yes rfl (cg_d_of (cg_R_ref c1 rfl (cg_d_of ⟨ad, aas.length, mo, j1, ?_⟩)))
    rw [el]
    by_cases w : att.length ≤ 3
    · exact if_yes (nI_le (b := 3) w (by decide)) (fin 0 (Or.inl rfl) (by rw [Bool.false_or, decide_eq_false (by omega)]; rfl))
    · exact if_no (nI_ge (a := 3) (by omega) (by omega)) (fin 1 (Or.inr rfl) (by rw [Bool.false_or, decide_eq_true (by omega)]; rfl))
end PL14
