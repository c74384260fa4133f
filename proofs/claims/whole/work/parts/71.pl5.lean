-- reading: nodes are made
theorem ja.mo2 {dA : Nat → ClassId} {h h1 : hm_T} {q d : Nat} {as : List Nat} {Y : Nat → Prop} (j : ja dA h q d as) (M : hm_mo h h1 Y) (hq : ¬ Y q) (hd : as ≠ [] → ¬ Y d) : ja dA h1 q d as := j.mo M hq hd
section PL5
variable {dA : Nat → ClassId} {h : hm_T} {z : hz_T} {y tt p rd sc d x l : Nat} {wr tm : Int32} {xs as : List Nat}
/-- the constructor of a node: everything but its text -/
theorem rl_nodeInit {kd dp : Int32} {op : Option Nat} (c0 : h x = some (.inr (8, [.int 0, .null, .int 0, .null, .null, .int 0, .int 0, .null, .null]))) (hop : (op = none ∧ dp = 0) ∨ ∃ (o : Nat) (fs : List Value) (v : Int32), op = some o ∧ o ≠ x ∧ h o = some (.inr (8, fs)) ∧ fs[2]? = some (.int v) ∧ dp = v + 1) {c s : Nat} (hc : 1 ≤ c) (hs : 3 ≤ s) {K : hm_T → hz_T → Prop}
    (hK : ∀ (h1 : hm_T) (aq e1 e2 : Nat), h1 x = some (.inr (8, [.int kd, va_rf op, .int dp, .ref l, .ref aq, .int (-1), .int (-1), .ref e1, .ref e2])) → (∃ u, z e1 = some (u, [])) → (∃ u, z e2 = some (u, [])) → ja dA h1 aq (dA 99) [] → h aq = none → hm_mo h h1 (fun b => b = x) → K h1 z) : w_Node_init dA x kd op (some l) c s K h z := by
  have go : w_Node_init_29 dA x K (some l) dp c s (hm_u h x (.inr (8, [.int kd, va_rf op, .int 0, .null, .null, .int 0, .int 0, .null, .null]))) z := by
    unfold w_Node_init_29
    refine cg_p_of hm_s (show 2 < 9 by decide) (cg_p_of hm_s (show 3 < 9 by decide) ?_)
    rw [hm_uu, hm_uu]
    refine cg_new_of hc hs (fun aq hq => ?_)
    have n1 : aq ≠ x := fun w => by rw [w, hm_s] at hq; cases hq
    have hq0 : h aq = none := by rw [hm_n n1] at hq; exact hq
    refine cg_c_of hm_s (cg_rm_0 (ja_init hm_s (fun h1 j1 M1 => ?_)))
    have hx1 := M1 _ _ (show (hm_u (hm_u h x _) aq _ : hm_T) x = some _ by rw [hm_n (Ne.symm n1)]; exact hm_s) (Ne.symm n1)
    refine cg_p_of hx1 (show 4 < 9 by decide) (cg_p_of hm_s (show 5 < 9 by decide) (cg_p_of hm_s (show 6 < 9 by decide) (fun e1 u1 z1 => cg_p_of hm_s (show 7 < 9 by decide) (fun e2 u2 z2 => cg_p_of hm_s (show 8 < 9 by decide) ?_))))
    rw [hm_uu, hm_uu, hm_uu, hm_uu]
    refine hK _ aq e1 e2 hm_s ⟨u1, z1⟩ ⟨u2, z2⟩ (j1.mo (Y := fun b => b = x) (hm_mo.u rfl) n1 (fun w => absurd rfl w)) hq0 (fun b e hb n => ?_)
    rw [hm_n n]
    refine M1 b e ?_ (hm_nn hb hq0)
    rw [hm_n (hm_nn hb hq0), hm_n n]
    exact hb
  unfold w_Node_init
  refine cg_p_of c0 (show 0 < 9 by decide) (cg_p_of hm_s (show 1 < 9 by decide) ?_)
  rw [hm_uu]
  rcases hop with ⟨e1, e2⟩ | ⟨o, fs, v, e1, n1, c1, c2, e2⟩
  · subst e1 e2
    exact if_yes rfl go
  · subst e1 e2
    exact if_no (by simp) (cg_d_of (cg_I_of (show (hm_u h x _ : hm_T) o = some (.inr (8, fs)) by rw [hm_n n1]; exact c1) c2 go))
theorem rl_make {kd dp : Int32} {op : Option Nat} (R : h y = some (r6c tt p wr rd sc tm)) (j : ja dA h rd d as) (hl : as.length ≤ 130) (ja1 : ∀ i, i < as.length → jo h (as.getD i 0)) (hop : (op = none ∧ dp = 0) ∨ ∃ (o : Nat) (fs : List Value) (v : Int32), op = some o ∧ h o = some (.inr (8, fs)) ∧ fs[2]? = some (.int v) ∧ dp = v + 1) {c s : Nat} (hc : 3 ≤ c) (hs : 212 ≤ s) {K : Option Nat → hm_T → hz_T → Prop}
    (hK : ∀ (h1 : hm_T) (x aq e1 e2 d1 : Nat), h1 x = some (.inr (8, [.int kd, va_rf op, .int dp, .ref l, .ref aq, .int (-1), .int (-1), .ref e1, .ref e2])) → (∃ u, z e1 = some (u, [])) → (∃ u, z e2 = some (u, [])) → ja dA h1 aq (dA 99) [] → h x = none → h aq = none → ja dA h1 rd d1 (as ++ [x]) → ((d1 = d ∧ as ≠ []) ∨ h d1 = none) → hm_mo h h1 (fun b => b = rd ∨ (b = d ∧ as ≠ [])) → K (some x) h1 z) : w_MarkupReader_make dA y kd op (some l) c s K h z := by
  obtain ⟨mo, r1, r2⟩ := id j
  unfold w_MarkupReader_make
  refine cg_new_of (by omega) (by omega) (fun x hx => cg_c_of hm_s (cg_rm_of (c1 := 1) (s1 := 3) (by omega) (by omega) ?_))
  have M0 : ∀ e, hm_mo h (hm_u h x e) (fun _ => False) := fun e b f hb _ => by rw [hm_n (hm_nn hb hx)]; exact hb
  have hop2 : (op = none ∧ dp = 0) ∨ ∃ (o : Nat) (fs : List Value) (v : Int32), op = some o ∧ o ≠ x ∧ (hm_u h x (.inr (8, [.int 0, .null, .int 0, .null, .null, .int 0, .int 0, .null, .null])) : hm_T) o = some (.inr (8, fs)) ∧ fs[2]? = some (.int v) ∧ dp = v + 1 := by
    rcases hop with w | ⟨o, fs, v, e1, c1, c2, e2⟩
    · exact Or.inl w
    · exact Or.inr ⟨o, fs, v, e1, hm_nn c1 hx, M0 _ _ _ c1 id, c2, e2⟩
  refine rl_nodeInit hm_s hop2 (Nat.le_refl _) (Nat.le_refl _) (fun h1 aq e1 e2 c1 z1 z2 j1 hq M1 => ?_)
  have n1 : aq ≠ x := fun w => by rw [w, hm_s] at hq; cases hq
  have hq0 : h aq = none := by rw [hm_n n1] at hq; exact hq
  have M2 : hm_mo h h1 (fun _ => False) := fun b e hb _ => M1 b e (M0 _ b e hb id) (hm_nn hb hx)
  have R1 := M2 _ _ R id
  have jr := j.mo M2 id (fun _ => id)
  have jox : jo h1 x := ⟨8, _, c1, Or.inl rfl⟩
  refine cg_R_ref R1 rfl (cg_d_of (cg_c_of (M2 _ _ r1 id) (cg_rm_of (c1 := 1) (s1 := 200) (by omega) (by omega) ?_)))
  refine ja_add jr hl jox (fun i hi => (ja1 i hi).mo M2 id) (Nat.le_refl _) (Nat.le_refl _) (fun h2 d1 j2 hd M3 => ?_)
  have xr : x ≠ rd := Ne.symm (hm_nn r1 hx)
  have ar : aq ≠ rd := Ne.symm (hm_nn r1 hq0)
  have dd : ∀ b, h b = none → ¬ (b = rd ∨ (b = d ∧ as ≠ [])) := fun b hb w => by
    rcases w with w | ⟨w, e⟩
    · rw [w, r1] at hb; cases hb
    · rcases r2 with ⟨e9, _⟩ | ⟨_, n, f, c3, _⟩
      · exact e e9
      · rw [w, c3] at hb; cases hb
  refine hK h2 x aq e1 e2 d1 (M3 _ _ c1 (dd x hx)) z1 z2 (j1.mo M3 (dd aq hq0) (fun w => absurd rfl w)) hx hq0 j2 ?_ (fun b e hb n => M3 b e (M2 b e hb id) n)
  rcases hd with w | w
  · exact Or.inl w
  · refine Or.inr ?_
    cases e9 : h d1 with
    | none => rfl
    | some e => rw [M2 _ _ e9 id] at w; cases w
/-- the label of a child -/
theorem rl_child {fs : List Value} {lab : List Int32} (c1 : h x = some (.inr (8, fs))) (c2 : fs[3]? = some (.ref l)) (hl : cp_lab dA h l lab) (h16 : lab.length ≤ 30) {k c s : Nat} (hc : 1 ≤ c) (hs : 31 ≤ s) {K : Option Nat → hm_T → hz_T → Prop} (hK : ∀ (h1 : hm_T) (l1 : Nat), cp_lab dA h1 l1 (lab ++ [2 * nI k + 1]) → h l1 = none → hm_mo h h1 (fun _ => False) → K (some l1) h1 z) : w_Node_labelOfChild dA x (nI k) c s K h z := by
  obtain ⟨f, f1, f2⟩ := hl
  unfold w_Node_labelOfChild
  refine cg_R_ref c1 c2 (cg_R_ref c1 c2 (cg_d_of (cg_al_of f1 (cg_rm_of hc hs ?_))))
  unfold w_Arrays_copyOfI
  rw [nI_1]
  refine cg_d_of (cg_al_of f1 (if_no (fun w => by have := (nI_eq (by omega) (by omega)).mp w; omega) ⟨lab.length + 1, 0, 31 - (lab.length + 1), rfl, by omega, rfl, by omega, fun q hq => ?_⟩))
  have M0 : ∀ e, hm_mo h (hm_u h q e) (fun _ => False) := fun e b g hb _ => by rw [hm_n (hm_nn hb hq)]; exact hb
  have nl : l ≠ q := hm_nn f1 hq
  refine cg_d_of (cg_al_of (M0 _ _ _ f1 id) (cg_d_of ?_))
  rw [if_neg (show ¬ nI (lab.length + 1) < nI lab.length from nI_nlt (by omega) (by omega))]
  refine ⟨lab.length, lab.length, lab.length + 1, f, _, rfl, M0 _ _ _ f1 id, hm_s, Nat.le_refl _, by omega, by omega, by omega, ?_⟩
  rw [hm_uu]
  have c3 : ∀ e, (hm_u h q e : hm_T) x = some (.inr (8, fs)) := fun e => M0 _ _ _ c1 id
  refine cg_R_ref (c3 _) c2 (cg_d_of (cg_al_of (M0 _ _ _ f1 id) (cg_d_of (cg_si_of hm_s (by omega) (by omega) ?_))))
  rw [hm_uu]
  refine hK _ q ⟨_, by rw [List.length_append]; exact hm_s, fun i hi => ?_⟩ hq (M0 _)
  rw [List.length_append] at hi
  rw [List.getD_eq_getElem?_getD]
  unfold upd
  by_cases w : i = lab.length
  · subst w
    rw [if_pos rfl, List.getElem?_append_right (Nat.le_refl _), Nat.sub_self]
    rfl
  · have hi2 : i < lab.length := by simp at hi; omega
    rw [if_neg w, List.getElem?_append_left hi2, ← List.getD_eq_getElem?_getD]
    unfold va_cpy
    rw [if_pos (by omega), Nat.zero_add, Nat.sub_zero]
    exact f2 i hi2
/-- the attribute of this name, if there is one -/
theorem rl_named {fs : List Value} {aq ad : Nat} {aas : List Nat} {att : List (List Nat × List Nat)} {tn un : Nat} {nm : List Nat} (c1 : h x = some (.inr (8, fs))) (c2 : fs[4]? = some (.ref aq)) (j : ja dA h aq ad aas) (el : aas.length = att.length) (ra : ∀ i, i < att.length → cp_at1 h z (aas.getD i 0) (att.getD i ([], []))) (hz : z tn = some (un, nm)) (hn : nm.length < 1000) (hc : ∀ c ∈ nm, c < 128) (ha : ∀ q ∈ att, q.1.length < 1000 ∧ ∀ c ∈ q.1, c < 128) (hal : att.length < 1000) {K : Option Nat → hm_T → hz_T → Prop} (k0 : (∀ q ∈ att, q.1 ≠ nm) → K none h z) (k1 : ∀ i, i < att.length → (att.getD i ([], [])).1 = nm → (∀ j, j < i → (att.getD j ([], [])).1 ≠ nm) → K (some (aas.getD i 0)) h z) : w_Node_attributeNamed dA x (some tn) K h z := by
  have loop : ∀ (r fu i : Nat), i + r = att.length → r < fu → (∀ k, k < i → (att.getD k ([], [])).1 ≠ nm) → w_Node_attributeNamed_2 dA x K fu (some tn) (nI i) h z := by
    obtain ⟨mo, j1, j2⟩ := id j
    intro r
    induction r with
    | zero =>
      intro fu i hi hf hk
      obtain ⟨fu, rfl⟩ : ∃ f, fu = f + 1 := ⟨fu - 1, by omega⟩
      unfold w_Node_attributeNamed_2
      refine cg_R_ref c1 c2 (cg_d_of ⟨ad, aas.length, mo, j1, if_yes (nI_le (by omega) (by omega)) (k0 (fun q hq => ?_))⟩)
      obtain ⟨n, hn1, hn2⟩ := List.getElem_of_mem hq
      have := hk n (by omega)
      rw [List.getD_eq_getElem?_getD, List.getElem?_eq_getElem hn1] at this
      rw [← hn2]
      exact this
    | succ r ih =>
      intro fu i hi hf hk
      obtain ⟨fu, rfl⟩ : ∃ f, fu = f + 1 := ⟨fu - 1, by omega⟩
      have hlt : i < att.length := by omega
      obtain ⟨p1, p2, u1, u2, a1, a2, a3⟩ := ra i hlt
      have hmem : att.getD i ([], []) ∈ att := by
        rw [List.getD_eq_getElem?_getD, List.getElem?_eq_getElem hlt]
        exact List.getElem_mem hlt
      have hp := ha _ hmem
      have get : ∀ {K : Nat → Prop}, K (aas.getD i 0) → jd_get dA h aq (nI i) K := fun {K} hK => by
        rcases j2 with ⟨e, _⟩ | ⟨e, n9, f, c3, l1, l2, l3⟩
        · rw [e] at el; simp at el; omega
        · exact ⟨ad, aas.length, mo, n9, i, _, f, j1, c3, rfl, by omega, l1, by omega, l3 i (by omega), hK⟩
      unfold w_Node_attributeNamed_2
      refine cg_R_ref c1 c2 (cg_d_of ⟨ad, aas.length, mo, j1, if_no (nI_ge (by omega) (by omega)) (cg_R_ref c1 c2 (cg_d_of (get (cg_c_of a1 (cg_c_of a1 ?_)))))⟩)
      unfold w_Attribute_name
      refine cg_R_ref a1 rfl (cg_d_of (cg_d_of ⟨u1, _, un, nm, a2, hz, by omega, by omega, hp.2, hc, ?_⟩))
      by_cases w : (att.getD i ([], [])).1 = nm
      · rw [if_pos w]
        exact if_no (by decide) (cg_R_ref c1 c2 (cg_d_of (get (cg_c_of a1 (k1 i hlt w hk)))))
      · rw [if_neg w, nI_1]
        refine if_yes rfl (ih fu (i + 1) (by omega) (by omega) (fun k hk2 => ?_))
        by_cases e : k = i
        · rw [e]; exact w
        · exact hk k (by omega)
  unfold w_Node_attributeNamed
  exact loop att.length mF 0 (by omega) (by unfold mF; omega) (fun k hk => absurd hk (Nat.not_lt_zero _))
theorem rl_endTagL (t : rT z tt xs) {fs : List Value} {tx ut : Nat} {nm : List Nat} (c2 : fs[7]? = some (.ref tx)) (hz : z tx = some (ut, nm)) (hn : nm.length < 1000) (hcn : ∀ c ∈ nm, c < 128) (xy : x ≠ y) {K : Int32 → hm_T → hz_T → Prop} : ∀ (r fu i p : Nat) (h : hm_T), i + r = nm.length → r < fu → p + r < 2 ^ 28 → h y = some (r6c tt p wr rd sc tm) → h x = some (.inr (8, fs)) →
    ((∀ k, k < r → xs.getD (p + k) 0 = nm.getD (i + k) 0) → xs.getD (p + r) 0 = 62 → ∀ h1, h1 y = some (r6c tt (p + r + 1) wr rd sc tm) → hm_mo h h1 (fun b => b = y) → K 1 h1 z) →
    (∀ e, (∃ k, k ≤ r ∧ e = p + k ∧ (∀ j, j < k → xs.getD (p + j) 0 = nm.getD (i + j) 0) ∧ (if k < r then xs.getD (p + k) 0 ≠ nm.getD (i + k) 0 else xs.getD (p + k) 0 ≠ 62)) → ∀ h1 p1, h1 y = some (r6c tt p1 (nI e) rd sc tm) → hm_mo h h1 (fun b => b = y) → K 0 h1 z) → w_MarkupReader_readEndTag_12 dA y K fu (some x) (nI i) h z := by
  intro r
  induction r with
  | zero =>
    intro fu i p h hi hf hp R c1 k1 k0
    obtain ⟨fu, rfl⟩ : ∃ f, fu = f + 1 := ⟨fu - 1, by omega⟩
    unfold w_MarkupReader_readEndTag_12
    refine cg_d_of (cg_R_ref c1 c2 (cg_d_of ⟨ut, nm, hz, if_yes (nI_le (by omega) (by omega)) (cg_c_of R (rl_take (c := 62) R t (by omega) (by decide) (fun q h1 R1 M1 => ?_) (fun q h1 R1 M1 => ?_)))⟩))
    · exact ⟨Or.inr rfl, k1 (fun k hk => absurd hk (Nat.not_lt_zero _)) q h1 R1 M1⟩
    · exact ⟨Or.inl rfl, k0 p ⟨0, Nat.le_refl _, rfl, fun j hj => absurd hj (Nat.not_lt_zero _), by rw [if_neg (Nat.lt_irrefl _)]; exact q⟩ h1 p R1 M1⟩
  | succ r ih =>
    intro fu i p h hi hf hp R c1 k1 k0
    obtain ⟨fu, rfl⟩ : ∃ f, fu = f + 1 := ⟨fu - 1, by omega⟩
    unfold w_MarkupReader_readEndTag_12
    refine cg_d_of (cg_R_ref c1 c2 (cg_d_of ⟨ut, nm, hz, if_no (nI_ge (by omega) (by omega)) (cg_d_of (cg_R_ref c1 c2 (cg_d_of ⟨ut, nm, i, hz, rfl, by omega, by omega, hcn, cg_c_of R (rl_take R t (by omega) (getD_lt hcn i) (fun q h1 R1 M1 => ?_) (fun q h1 R1 M1 => ?_))⟩)))⟩))
    · rw [nI_1]
      refine if_no (by decide) (ih fu (i + 1) (p + 1) h1 (by omega) (by omega) (by omega) R1 (M1 _ _ c1 xy) (fun a1 a2 h2 R2 M2 => ?_) (fun e ⟨k, b1, b2, b3, b4⟩ h2 p2 R2 M2 => ?_))
      · refine k1 (fun k hk => ?_) (by rw [show p + (r + 1) = p + 1 + r by omega]; exact a2) h2 (by rw [show p + (r + 1) + 1 = p + 1 + r + 1 by omega]; exact R2) (M1.trans M2)
        cases k with
        | zero => exact q
        | succ k => rw [show p + (k + 1) = p + 1 + k by omega, show i + (k + 1) = i + 1 + k by omega]; exact a1 k (by omega)
      · refine k0 e ⟨k + 1, by omega, by omega, fun j hj => ?_, ?_⟩ h2 p2 R2 (M1.trans M2)
        · cases j with
          | zero => exact q
          | succ j => rw [show p + (j + 1) = p + 1 + j by omega, show i + (j + 1) = i + 1 + j by omega]; exact b3 j (by omega)
        · rw [show p + (k + 1) = p + 1 + k by omega, show i + (k + 1) = i + 1 + k by omega]
          by_cases w : k < r
          · rw [if_pos (by omega)]
            rw [if_pos w] at b4
            exact b4
          · rw [if_neg (by omega)]
            rw [if_neg w] at b4
            exact b4
    · exact if_yes rfl (k0 p ⟨0, by omega, rfl, fun j hj => absurd hj (Nat.not_lt_zero _), by rw [if_pos (by omega)]; exact q⟩ h1 p R1 M1)
end PL5
-- reading: an attribute
/-- the attribute whose name begins at p, or the place of the first error -/
def p_att (xs : List Nat) (p : Nat) (as : List (List Nat × List Nat)) : Nat ⊕ (Nat × (List Nat × List Nat)) :=
  if a_let xs p = 0 ∨ (∃ q ∈ as, q.1 = (xs.drop p).take (a_let xs p)) then .inl p else if xs.getD (p + a_let xs p) 0 ≠ 61 then .inl (p + a_let xs p) else if xs.getD (p + a_let xs p + 1) 0 ≠ 34 then .inl (p + a_let xs p + 1) else match p_val xs 34 200 (p + a_let xs p + 2) [] with
    | .inl e => .inl e
    | .inr (q, v) => if xs.getD q 0 = 34 then .inr (q + 1, ((xs.drop p).take (a_let xs p), v)) else .inl q
def aE (r : Nat ⊕ (Nat × (List Nat × List Nat))) : Nat := match r with
  | .inl e => e
  | .inr (q, _) => q
theorem getD_pos {xs : List Nat} {p c : Nat} (h : xs.getD p 0 = c) (hc : c ≠ 0) : p < xs.length := by
  rcases Nat.lt_or_ge p xs.length with q | q
  · exact q
  · rw [List.getD_eq_getElem?_getD, List.getElem?_eq_none q] at h
    exact absurd h.symm hc
theorem p_val_le {xs : List Nat} {stop : Nat} : ∀ (f p : Nat) (acc : List Nat) {q : Nat} {v : List Nat}, p ≤ xs.length → p_val xs stop f p acc = .inr (q, v) → p ≤ q ∧ q ≤ xs.length ∧ v.length ≤ acc.length + (q - p) := by
  intro f
  induction f with
  | zero => intro p acc q v hp e; cases e; exact ⟨Nat.le_refl _, hp, by omega⟩
  | succ f ih =>
    intro p acc q v hp e
    unfold p_val at e
    by_cases q0 : xs.length ≤ p
    · rw [if_pos q0] at e; cases e; exact ⟨Nat.le_refl _, hp, by omega⟩
    rw [if_neg q0] at e
    by_cases q1 : xs.getD p 0 = 60 ∨ xs.getD p 0 = stop
    · rw [if_pos q1] at e; cases e; exact ⟨Nat.le_refl _, hp, by omega⟩
    rw [if_neg q1] at e
    by_cases q2 : xs.getD p 0 = 38
    · rw [if_pos q2] at e
      cases ea : a_ent xs p with
      | none => rw [ea] at e; cases e
      | some x =>
        obtain ⟨c, r⟩ := x
        rw [ea] at e
        have h1 := a_ent_some ea
        have := ih (r + 1) _ (by omega) e
        rw [List.length_append] at this
        simp at this
        omega
    · rw [if_neg q2] at e
      have := ih (p + 1) _ (by omega) e
      rw [List.length_append] at this
      simp at this
      omega
theorem p_val_ch {xs : List Nat} {stop : Nat} (hx : ∀ c ∈ xs, c < 128) : ∀ (f p : Nat) (acc : List Nat) {q : Nat} {v : List Nat}, (∀ c ∈ acc, c < 128) → p_val xs stop f p acc = .inr (q, v) → ∀ c ∈ v, c < 128 := by
  intro f
  induction f with
  | zero => intro p acc q v ha e; cases e; exact ha
  | succ f ih =>
    intro p acc q v ha e
    have snoc : ∀ x : Nat, x < 128 → ∀ c ∈ acc ++ [x], c < 128 := fun x hx c hc => by
      rcases List.mem_append.mp hc with w | w
      · exact ha c w
      · rw [List.mem_singleton.mp w]; exact hx
    unfold p_val at e
    by_cases q0 : xs.length ≤ p
    · rw [if_pos q0] at e; cases e; exact ha
    rw [if_neg q0] at e
    by_cases q1 : xs.getD p 0 = 60 ∨ xs.getD p 0 = stop
    · rw [if_pos q1] at e; cases e; exact ha
    rw [if_neg q1] at e
    by_cases q2 : xs.getD p 0 = 38
    · rw [if_pos q2] at e
      cases ea : a_ent xs p with
      | none => rw [ea] at e; cases e
      | some x =>
        obtain ⟨c, r⟩ := x
        rw [ea] at e
        exact ih (r + 1) _ (snoc c (a_ent_some ea).2.2) e
    · rw [if_neg q2] at e
      exact ih (p + 1) _ (snoc _ (getD_lt hx p)) e
/-- what the reader has come to when it has failed at e -/
def rErr (dA : Nat → ClassId) (h : hm_T) (z : hz_T) (Y : Nat → Prop) (y tt rd sc sv e : Nat) (K : hm_T → hz_T → Prop) : Prop := ∀ (h1 : hm_T) (z1 : hz_T) (sv1 p1 : Nat) (tm1 : Int32) (ws1 : List Nat), h1 y = some (r6c tt p1 (nI e) rd sc tm1) → jb dA h1 sc sv1 ws1 → (sv1 = sv ∨ h sv1 = none) → hm_mo h h1 Y → hz_mo z z1 → K h1 z1
theorem Y_aq {b y sc sv aq ad : Nat} {aas : List Nat} (w : b = y) : b = y ∨ b = sc ∨ b = sv ∨ b = aq ∨ (b = ad ∧ aas ≠ []) := Or.inl w
theorem rl_attr_room {L V p a c s : Nat} (hV : V ≤ L) (hc : 7 + 11 * (L + 1 - p) ≤ c) (hs : 640 + 872 * (L + 1 - p) ≤ s) : 3 + 11 * (V + 1 - (p + 1 + a + 1 + 1)) ≤ c - 2 ∧ 288 + 872 * (V + 1 - (p + 1 + a + 1 + 1)) ≤ s - 146 ∧ 1 ≤ c - 2 - (3 + 11 * (V + 1 - (p + 1 + a + 1 + 1))) ∧ 2 ≤ s - 146 - (288 + 872 * (V + 1 - (p + 1 + a + 1 + 1))) ∧ 1 ≤ c - 2 - (3 + 11 * (V + 1 - (p + 1 + a + 1 + 1))) - 1 ∧ 200 ≤ s - 146 - (288 + 872 * (V + 1 - (p + 1 + a + 1 + 1))) - 2 := by omega
theorem rl_attr_room0 {L p c s : Nat} (hc : 7 + 11 * (L + 1 - p) ≤ c) (hs : 640 + 872 * (L + 1 - p) ≤ s) : 2 ≤ c ∧ 146 ≤ s := by omega
section PL6
variable {dA : Nat → ClassId} {h : hm_T} {z : hz_T} {y tt rd sc sv p x aq ad : Nat} {tm : Int32} {xs ws aas : List Nat} {fs : List Value} {att : List (List Nat × List Nat)}
theorem rl_attr (R : h y = some (r6c tt p (-1) rd sc tm)) (t : rT z tt xs) (jS : jb dA h sc sv ws) (ht : tm = 0 ∨ tm = 1) (hp : p < xs.length) (c1 : h x = some (.inr (8, fs))) (c2 : fs[4]? = some (.ref aq)) (j : ja dA h aq ad aas) (el : aas.length = att.length) (ra : ∀ i, i < att.length → cp_at1 h z (aas.getD i 0) (att.getD i ([], []))) (ha : ∀ q ∈ att, q.1.length < 1000 ∧ ∀ c ∈ q.1, c < 128) (hal : att.length ≤ 120) {c s : Nat} (hc : 7 + 11 * (aE (p_att xs (p + 1) att) + 1 - p) ≤ c) (hs : 640 + 872 * (aE (p_att xs (p + 1) att) + 1 - p) ≤ s) {K : Int32 → hm_T → hz_T → Prop}
    (kok : ∀ q nv, p_att xs (p + 1) att = .inr (q, nv) → ∀ (h1 : hm_T) (z1 : hz_T) (sv1 ad1 o : Nat) (ws1 : List Nat), h1 y = some (r6c tt q (-1) rd sc (if tm = 0 ∧ nv.2.length ≤ 20 then 0 else 1)) → jb dA h1 sc sv1 ws1 → (sv1 = sv ∨ h sv1 = none) → ja dA h1 aq ad1 (aas ++ [o]) → ((ad1 = ad ∧ aas ≠ []) ∨ h ad1 = none ∨ ad1 = sv) → cp_at1 h1 z1 o nv → (h o = none ∨ o = sv) → hm_mo h h1 (fun b => b = y ∨ b = sc ∨ b = sv ∨ b = aq ∨ (b = ad ∧ aas ≠ [])) → hz_mo z z1 → K 1 h1 z1)
    (kerr : ∀ e, p_att xs (p + 1) att = .inl e → rErr dA h z (fun b => b = y ∨ b = sc ∨ b = sv ∨ b = aq ∨ (b = ad ∧ aas ≠ [])) y tt rd sc sv e (K 0)) : w_MarkupReader_readAttribute dA y (some x) c s K h z := by
  have t0 := t
  obtain ⟨⟨u, hu⟩, hl, hcx⟩ := t
  obtain ⟨mb, nb, fb, b1, b2, br⟩ := id jS
  have ysc : sc ≠ y := hm_ne b1 R rfl
  have ysv : sv ≠ y := hm_ne b2 R rfl
  have xy : x ≠ y := hm_ne c1 R rfl
  obtain ⟨mo, j1, j2⟩ := id j
  have aqy : aq ≠ y := hm_ne j1 R rfl
  have ady : aas ≠ [] → ad ≠ y := fun e => by
    rcases j2 with ⟨e2, _⟩ | ⟨_, n, f, c3, _⟩
    · exact absurd e2 e
    · exact hm_ne c3 R rfl
  have hjo : ∀ i, i < aas.length → jo h (aas.getD i 0) := fun i hi => by
    obtain ⟨p1, p2, u1, u2, a1, _⟩ := ra i (by omega)
    exact ⟨9, _, a1, Or.inr (Or.inl rfl)⟩
  have atY : ∀ i, i < att.length → aas.getD i 0 ≠ y := fun i hi => by
    obtain ⟨p1, p2, u1, u2, a1, _⟩ := ra i hi
    exact hm_ne a1 R rfl
  have hle := a_let_le (xs := xs) (p := p + 1) (by omega)
  have hle6 := (a_let_small (xs := xs) (p := p + 1)).1
  obtain ⟨hB1, hB2⟩ := rl_attr_room0 hc hs
  unfold w_MarkupReader_readAttribute w_MarkupReader_readAttribute_61 w_MarkupReader_readAttribute_87
  refine cg_I_of R rfl (cg_p_of R (show 1 < 6 by decide) ?_)
  rw [nI_1]
  refine cg_I_of hm_s rfl (cg_c_of hm_s (cg_rm_of (c1 := 2) (s1 := 146) hB1 hB2 (rl_name hm_s t0 (by omega) (Nat.le_refl _) (Nat.le_refl _) (fun h1 z1 tn R1 M1 Z1 ⟨un, hn⟩ => ?_))))
  have M01 : hm_mo h h1 (fun b => b = y) := (hm_mo.u (Y := fun b => b = y) rfl).trans M1
  have Yy : ∀ {h2 : hm_T}, hm_mo h h2 (fun b => b = y) → hm_mo h h2 (fun b => b = y ∨ b = sc ∨ b = sv ∨ b = aq ∨ (b = ad ∧ aas ≠ [])) := fun m => m.weak (fun b w => Or.inl w)
  have jS1 := jS.mo M01 ysc ysv
  have c11 := M01 _ _ c1 xy
  have nmc : ∀ c ∈ (xs.drop (p + 1)).take (a_let xs (p + 1)), c < 128 := fun c hc => hcx c (List.mem_of_mem_drop (List.mem_of_mem_take hc))
  by_cases q0 : a_let xs (p + 1) = 0
  · rw [if_pos q0] at R1
    exact cg_c_of R1 (rl_failed1 R1 (by omega) (if_no (by decide) (kerr (p + 1) (if_pos (Or.inl q0)) h1 z1 sv _ _ ws R1 jS1 (Or.inl rfl) (Yy M01) Z1)))
  rw [if_neg q0] at R1
  refine cg_c_of R1 (rl_failed0 R1 (if_yes rfl (cg_d_of (cg_c_of c11 ?_))))
  refine rl_named c11 c2 (j.mo M01 aqy ady) el (fun i hi => (ra i hi).mo M01 Z1 (atY i hi)) hn (by rw [List.length_take]; omega) nmc ha (by omega) (fun nn => ?_) (fun i hi e1 _ => ?_)
  rotate_left
  · refine if_no (by simp) (cg_c_of R1 (rl_failAt R1 (fun h2 R2 M2 => ⟨Or.inl rfl, kerr (p + 1) (if_pos (Or.inr ⟨att.getD i ([], []), ?_, e1⟩)) h2 z1 sv _ _ ws R2 (jS1.mo M2 ysc ysv) (Or.inl rfl) (Yy (M01.trans M2)) Z1⟩)))
    rw [List.getD_eq_getElem?_getD, List.getElem?_eq_getElem hi]
    exact List.getElem_mem hi
  have ep : p_att xs (p + 1) att = if xs.getD (p + 1 + a_let xs (p + 1)) 0 ≠ 61 then .inl (p + 1 + a_let xs (p + 1)) else if xs.getD (p + 1 + a_let xs (p + 1) + 1) 0 ≠ 34 then .inl (p + 1 + a_let xs (p + 1) + 1) else match p_val xs 34 200 (p + 1 + a_let xs (p + 1) + 2) [] with
      | .inl e => .inl e
      | .inr (q, v) => if xs.getD q 0 = 34 then .inr (q + 1, ((xs.drop (p + 1)).take (a_let xs (p + 1)), v)) else .inl q := if_neg (fun w => w.elim q0 (fun ⟨q, h1, h2⟩ => nn q h1 h2))
  refine if_yes rfl (cg_c_of R1 (rl_take (c := 61) R1 (t0.mo Z1) (by omega) (by decide) (fun g1 h2 R2 M2 => ?_) (fun g1 h2 R2 M2 => ?_)))
  rotate_left
  · exact if_yes rfl (kerr _ (by rw [ep, if_pos g1]) h2 z1 sv _ _ ws R2 (jS1.mo M2 ysc ysv) (Or.inl rfl) (Yy (M01.trans M2)) Z1)
  have l1 := getD_pos g1 (by decide)
  refine if_no (by decide) (cg_c_of R2 (rl_take (c := 34) R2 (t0.mo Z1) (by omega) (by decide) (fun g2 h3 R3 M3 => ?_) (fun g2 h3 R3 M3 => ?_)))
  rotate_left
  · exact if_yes rfl (kerr _ (by rw [ep, if_neg (fun w => w g1), if_pos g2]) h3 z1 sv _ _ ws R3 ((jS1.mo M2 ysc ysv).mo M3 ysc ysv) (Or.inl rfl) (Yy ((M01.trans M2).trans M3)) Z1)
  have l2 := getD_pos g2 (by decide)
  rw [if_neg (fun w => w g1), if_neg (fun w => w g2)] at ep
  have hVL : vE (p_val xs 34 200 (p + 1 + a_let xs (p + 1) + 1 + 1) []) ≤ aE (p_att xs (p + 1) att) := by
    rw [ep]
    show vE (p_val xs 34 200 (p + 1 + a_let xs (p + 1) + 2) []) ≤ _
    cases p_val xs 34 200 (p + 1 + a_let xs (p + 1) + 2) [] with
    | inl e => exact Nat.le_refl _
    | inr qv =>
      obtain ⟨q, v⟩ := qv
      simp only []
      by_cases w : xs.getD q 0 = 34
      · rw [if_pos w]; exact Nat.le_succ _
      · rw [if_neg w]; exact Nat.le_refl _
  obtain ⟨hA1, hA2, hA3, hA4, hA5, hA6⟩ := rl_attr_room (a := a_let xs (p + 1)) hVL hc hs
  have M03 : hm_mo h h3 (fun b => b = y) := (M01.trans M2).trans M3
  have jS3 := jS.mo M03 ysc ysv
  have svc3 : ∀ {sv1 : Nat}, (sv1 = sv ∨ h3 sv1 = none) → (sv1 = sv ∨ h sv1 = none) := fun w => sv_chain M03 (fun b w => Or.inr (by rw [w, R3]; simp)) (Or.inl rfl) w
  have YYv : ∀ {h4 : hm_T}, hm_mo h3 h4 (fun b => b = y ∨ b = sc ∨ b = sv) → hm_mo h h4 (fun b => b = y ∨ b = sc ∨ b = sv ∨ b = aq ∨ (b = ad ∧ aas ≠ [])) := fun m => (Yy M03).trans (m.weak (fun b w => w.elim Or.inl (fun w => w.elim (fun w => Or.inr (Or.inl w)) (fun w => Or.inr (Or.inr (Or.inl w))))))
  refine if_no (by decide) (cg_c_of R3 (cg_rm_of hA1 hA2 (rl_value (stop := 34) (by decide) ht (by omega) (Nat.le_refl _) (Nat.le_refl _) R3 (t0.mo Z1) jS3 (fun q v e h4 z4 sv4 t4 R4 jS4 hu4 M4 Z4 ⟨u4, k4⟩ => ?_) (fun e8 e h4 z4 sv4 t4 p4 tm4 ws4 R4 jS4 hu4 M4 Z4 k4 => ?_))))
  rotate_left
  · refine cg_c_of R4 (rl_failed1 R4 ?_ (if_no (by decide) (kerr e8 (by rw [ep]; rw [show p + 1 + a_let xs (p + 1) + 2 = p + 1 + a_let xs (p + 1) + 1 + 1 by omega, e]) h4 z4 sv4 _ _ _ R4 jS4 (svc3 hu4) (YYv M4) (Z1.trans Z4))))
    have pe : ∀ (f p9 : Nat) (acc : List Nat) (e9 : Nat), p_val xs 34 f p9 acc = .inl e9 → e9 < xs.length := by
      intro f
      induction f with
      | zero => intro p9 acc e9 w; cases w
      | succ f ih =>
        intro p9 acc e9 w
        unfold p_val at w
        by_cases a0 : xs.length ≤ p9
        · rw [if_pos a0] at w; cases w
        rw [if_neg a0] at w
        by_cases a1 : xs.getD p9 0 = 60 ∨ xs.getD p9 0 = 34
        · rw [if_pos a1] at w; cases w
        rw [if_neg a1] at w
        by_cases a2 : xs.getD p9 0 = 38
        · rw [if_pos a2] at w
          cases ea : a_ent xs p9 with
          | none => rw [ea] at w; cases w; omega
          | some x9 => obtain ⟨c9, r9⟩ := x9; rw [ea] at w; exact ih _ _ _ w
        · rw [if_neg a2] at w; exact ih _ _ _ w
    have := pe _ _ _ _ e
    omega
  have hq := p_val_le _ _ _ (by omega) e
  have ep2 : p_att xs (p + 1) att = if xs.getD q 0 = 34 then .inr (q + 1, ((xs.drop (p + 1)).take (a_let xs (p + 1)), v)) else .inl q := by rw [ep, show p + 1 + a_let xs (p + 1) + 2 = p + 1 + a_let xs (p + 1) + 1 + 1 by omega, e]
  obtain ⟨mb4, nb4, fb4, d1, d2, dr⟩ := id jS4
  have ysv4 : sv4 ≠ y := hm_ne d2 R4 rfl
  refine cg_c_of R4 (rl_failed0 R4 (if_yes rfl (cg_c_of R4 (rl_take (c := 34) R4 ((t0.mo Z1).mo Z4) (by omega) (by decide) (fun g3 h5 R5 M5 => ?_) (fun g3 h5 R5 M5 => ?_)))))
  rotate_left
  · exact if_yes rfl (kerr q (by rw [ep2, if_neg g3]) h5 z4 sv4 _ _ _ R5 (jS4.mo M5 ysc ysv4) (svc3 hu4) ((YYv M4).trans (M5.weak (fun b w => Or.inl w))) (Z1.trans Z4))
  -- the attribute is made
  have nY : ∀ b e, h b = some e → b ≠ y → b ≠ sc → b ≠ sv → h5 b = some e := fun b e hb n1 n2 n3 => M5 b e (M4 b e (M03 b e hb n1) (fun w => w.elim n1 (fun w => w.elim n2 n3))) n1
  have c15 := nY _ _ c1 xy (hm_ne c1 b1 rfl) (hm_ne c1 b2 rfl)
  have M05 : hm_mo h h5 (fun b => b = y ∨ b = sc ∨ b = sv) := fun b e hb n => nY b e hb (fun w => n (Or.inl w)) (fun w => n (Or.inr (Or.inl w))) (fun w => n (Or.inr (Or.inr w)))
  have aqn : ¬ (aq = y ∨ aq = sc ∨ aq = sv) := fun w => w.elim aqy (fun w => w.elim (hm_ne j1 b1 rfl) (hm_ne j1 b2 rfl))
  have adn : aas ≠ [] → ¬ (ad = y ∨ ad = sc ∨ ad = sv) := fun e9 => by
    rcases j2 with ⟨e2, _⟩ | ⟨_, n, f, c3, _⟩
    · exact absurd e2 e9
    · exact fun w => w.elim (hm_ne c3 R rfl) (fun w => w.elim (hm_ne c3 b1 rfl) (hm_ne c3 b2 rfl))
  have j5 := j.mo M05 aqn adn
  have hjo5 : ∀ i, i < aas.length → jo h5 (aas.getD i 0) := fun i hi => by
    obtain ⟨p1, p2, u1, u2, a1, _⟩ := ra i (by omega)
    exact ⟨9, _, M05 _ _ a1 (fun w => w.elim (hm_ne a1 R rfl) (fun w => w.elim (hm_ne a1 b1 rfl) (hm_ne a1 b2 rfl))), Or.inr (Or.inl rfl)⟩
  refine if_no (by decide) (cg_d_of (cg_R_ref c15 c2 (cg_new_of hA3 hA4 (fun o ho => cg_c_of hm_s (cg_rm_0 ?_)))))
  have M6 : ∀ e, hm_mo h5 (hm_u h5 o e) (fun _ => False) := fun e b f hb _ => by rw [hm_n (hm_nn hb ho)]; exact hb
  have ho0 : h o = none ∨ o = sv := by
    cases e9 : h o with
    | none => exact Or.inl rfl
    | some f =>
      by_cases w3 : o = sv
      · exact Or.inr w3
      have no : ∀ b g, h5 b = some g → o ≠ b := fun b g hb w => by rw [w, hb] at ho; cases ho
      exfalso
      rw [nY o f e9 (no _ _ R5) (no _ _ (M5 _ _ d1 ysc)) w3] at ho
      cases ho
  unfold w_Attribute_init
  refine cg_c_of hm_s (cg_rm_0 ?_)
  unfold w_Record_init9
  refine cg_p_of hm_s (show 0 < 2 by decide) (cg_p_of hm_s (show 1 < 2 by decide) ?_)
  rw [hm_uu, hm_uu]
  obtain ⟨mo5, j51, j52⟩ := id j5
  have jo6 : ∀ f, jo (hm_u h5 o (.inr (9, f))) o := fun f => ⟨9, f, hm_s, Or.inr (Or.inl rfl)⟩
  refine cg_d_of (cg_c_of (M6 _ _ _ j51 id) (cg_rm_of (c1 := 1) (s1 := 200) hA5 hA6 ?_))
  refine ja_add (j5.mo (M6 _) id (fun _ => id)) (by omega) (jo6 _) (fun i hi => (hjo5 i hi).mo (M6 _) id) (Nat.le_refl _) (Nat.le_refl _) (fun h7 ad1 j7 hd7 M7 => ?_)
  have oaq : o ≠ aq := fun w => by rw [w, j51] at ho; cases ho
  have oad : ¬ (o = ad ∧ aas ≠ []) := fun ⟨w, e9⟩ => by
    rcases j52 with ⟨e2, _⟩ | ⟨_, n, f, c3, _⟩
    · exact e9 e2
    · rw [w, c3] at ho; cases ho
  have nQ : ∀ b g, h5 b = some g → b ≠ aq → ¬ (b = ad ∧ aas ≠ []) → h7 b = some g := fun b g hb n1 n2 => M7 b g (M6 _ b g hb id) (fun w => w.elim n1 n2)
  have ady5 : aas ≠ [] → ad ≠ y ∧ ad ≠ sc ∧ ad ≠ sv4 := fun e9 => by
    rcases j52 with ⟨e2, _⟩ | ⟨_, n, f, c3, _⟩
    · exact absurd e2 e9
    · exact ⟨hm_ne c3 R5 rfl, hm_ne c3 (M5 _ _ d1 ysc) rfl, hm_ne c3 (M5 _ _ d2 ysv4) rfl⟩
  have jS7 : jb dA h7 sc sv4 v := ⟨mb4, nb4, fb4, nQ _ _ (M5 _ _ d1 ysc) (hm_ne (M5 _ _ d1 ysc) j51 rfl) (fun w => (ady5 w.2).2.1 w.1.symm), nQ _ _ (M5 _ _ d2 ysv4) (hm_ne (M5 _ _ d2 ysv4) j51 rfl) (fun w => (ady5 w.2).2.2 w.1.symm), dr⟩
  refine kok (q + 1) ((xs.drop (p + 1)).take (a_let xs (p + 1)), v) (by rw [ep2, if_pos g3]) h7 z4 sv4 ad1 o v ?_ jS7 (svc3 hu4) j7 ?_ ⟨tn, t4, un, u4, M7 _ _ hm_s (fun w => w.elim oaq oad), Z4 _ _ hn, k4⟩ ho0 (fun b g hb n => ?_) (Z1.trans Z4)
  · exact nQ _ _ R5 (Ne.symm (hm_ne j51 R5 rfl)) (fun w => (ady5 w.2).1 w.1.symm)
  · rcases hd7 with w | w
    · exact Or.inl w
    · refine Or.inr ?_
      cases e9 : h ad1 with
      | none => exact Or.inl rfl
      | some f =>
        by_cases w3 : ad1 = sv
        · exact Or.inr w3
        have no : ∀ b g, (hm_u h5 o (.inr (9, [.ref tn, .ref t4])) : hm_T) b = some g → ad1 ≠ b := fun b g hb w2 => by rw [w2] at w; exact absurd (hb.symm.trans w) (by simp)
        exfalso
        have n1 := no _ _ (M6 _ _ _ R5 id)
        have n2 := no _ _ (M6 _ _ _ (M5 _ _ d1 ysc) id)
        have := M6 (.inr (9, [.ref tn, .ref t4])) _ _ (nY ad1 f e9 n1 n2 w3) id
        exact absurd (this.symm.trans w) (by simp)
  · have n1 : b ≠ y := fun w => n (Or.inl w)
    have n2 : b ≠ sc := fun w => n (Or.inr (Or.inl w))
    have n3 : b ≠ sv := fun w => n (Or.inr (Or.inr (Or.inl w)))
    exact nQ b g (nY b g hb n1 n2 n3) (fun w => n (Or.inr (Or.inr (Or.inr (Or.inl w))))) (fun w => n (Or.inr (Or.inr (Or.inr (Or.inr w)))))
end PL6
-- reading: the reader's world
/-- a node as it is read: kind, index of its parent, depth, label, attributes, text -/
abbrev wn : Type := Nat × Option Nat × Nat × List Int32 × List (List Nat × List Nat) × List Nat
def wn0 : wn := (0, none, 0, [], [], [])
/-- the cells that reading writes -/
def rQ (E : Nat → Prop) (y rd d sc sv : Nat) (as : List Nat) (b : Nat) : Prop := b = y ∨ b = rd ∨ (b = d ∧ as ≠ []) ∨ b = sc ∨ b = sv ∨ E b
def eNo (_ : Nat) : Prop := False
/-- no cell of before -/
def fr0 (h0 : hm_T) (sv0 b : Nat) : Prop := h0 b = none ∨ b = sv0
def rPar (op : Option Nat) (as : List Nat) (w : wn) : Option Nat := match w.2.1 with
  | none => op
  | some j => some (as.getD j 0)
/-- a node that has been read lies at x -/
def rN (dA : Nat → ClassId) (h0 : hm_T) (sv0 : Nat) (op : Option Nat) (h : hm_T) (z : hz_T) (Q : Nat → Prop) (as : List Nat) (x : Nat) (w : wn) : Prop := ∃ l aq tx kt : Nat, h x = some (.inr (8, [.int (nI w.1), va_rf (rPar op as w), .int (nI w.2.2.1), .ref l, .ref aq, .int (-1), .int (-1), .ref tx, .ref kt])) ∧ ¬ Q x ∧ fr0 h0 sv0 x ∧ cp_lab dA h l w.2.2.2.1 ∧ ¬ Q l ∧ fr0 h0 sv0 l ∧ cp_att dA h z (fun b => Q b ∨ ¬ fr0 h0 sv0 b) aq w.2.2.2.2.1 ∧ (∃ u, z tx = some (u, w.2.2.2.2.2)) ∧ ∃ u, z kt = some (u, [])
def aInj (as : List Nat) : Prop := ∀ i j, i < as.length → j < as.length → as.getD i 0 = as.getD j 0 → i = j
def rRD (dA : Nat → ClassId) (h0 : hm_T) (z0 : hz_T) (sv0 : Nat) (op : Option Nat) (y tt : Nat) (xs : List Nat) (rd sc : Nat) (E : Nat → Prop) (h : hm_T) (z : hz_T) (p : Nat) (wr : Int32) (d : Nat) (as : List Nat) (sv : Nat) (ws : List Nat) (tm : Int32) (W : List wn) : Prop :=
  h y = some (r6c tt p wr rd sc tm) ∧ rT z tt xs ∧ jb dA h sc sv ws ∧ ja dA h rd d as ∧ (W.length ≤ as.length ∧ aInj as) ∧ (∀ i, i < W.length → rN dA h0 sv0 op h z (rQ E y rd d sc sv as) as (as.getD i 0) (W.getD i wn0) ∧ ∀ j, (W.getD i wn0).2.1 = some j → j < i) ∧ hm_mo h0 h (fun b => b = sc ∨ b = sv0) ∧ hz_mo z0 z ∧ (sv = sv0 ∨ h0 sv = none) ∧ (as ≠ [] → fr0 h0 sv0 d) ∧ h0 y = none ∧ h0 rd = none ∧ (tm = 0 ∨ tm = 1)
/-- it has failed at e -/
def rEr (dA : Nat → ClassId) (h0 : hm_T) (z0 : hz_T) (sv0 y tt rd sc e : Nat) (K : hm_T → hz_T → Prop) : Prop := ∀ (h1 : hm_T) (z1 : hz_T) (sv1 p1 : Nat) (tm1 : Int32) (ws1 : List Nat), h1 y = some (r6c tt p1 (nI e) rd sc tm1) → jb dA h1 sc sv1 ws1 → (sv1 = sv0 ∨ h0 sv1 = none) → hm_mo h0 h1 (fun b => b = sc ∨ b = sv0) → hz_mo z0 z1 → K h1 z1
section PL7
variable {dA : Nat → ClassId} {h0 : hm_T} {z0 : hz_T} {sv0 : Nat} {op : Option Nat} {y tt : Nat} {xs : List Nat} {rd sc : Nat} {h h1 : hm_T} {z z1 : hz_T} {p p1 : Nat} {wr wr1 : Int32} {d : Nat} {as : List Nat} {sv sv1 : Nat} {ws ws1 : List Nat} {tm tm1 : Int32} {W : List wn} {E E2 : Nat → Prop}
theorem rN.mo {Q Q2 Y : Nat → Prop} {x : Nat} {w : wn} {as2 : List Nat} (n : rN dA h0 sv0 op h z Q as x w) (M : hm_mo h h1 Y) (Z : hz_mo z z1) (hY : ∀ b, Y b → Q b ∨ ¬ fr0 h0 sv0 b) (hQ : ∀ b e, h b = some e → ¬ Q b → fr0 h0 sv0 b → ¬ Q2 b) (hp : rPar op as2 w = rPar op as w) : rN dA h0 sv0 op h1 z1 Q2 as2 x w := by
  obtain ⟨l, aq, tx, kt, c1, n1, f1, c2, n2, f2, c3, ⟨u, c4⟩, u2, c5⟩ := n
  have nY : ∀ b, ¬ Q b → fr0 h0 sv0 b → ¬ Y b := fun b n f w => (hY b w).elim n (fun k => k f)
  obtain ⟨f, c2a, c2b⟩ := id c2
  refine ⟨l, aq, tx, kt, by rw [hp]; exact M _ _ c1 (nY _ n1 f1), hQ _ _ c1 n1 f1, f1, c2.mo M (nY _ n2 f2), hQ _ _ c2a n2 f2, f2, c3.mo M Z hY (fun b e hb k w => ?_), ⟨u, Z _ _ c4⟩, u2, Z _ _ c5⟩
  have k1 : ¬ Q b := fun q => k (Or.inl q)
  have k2 : fr0 h0 sv0 b := Classical.byContradiction (fun q => k (Or.inr q))
  rcases w with w | w
  · exact hQ b e hb k1 k2 w
  · exact w k2
/-- a step that wrote the reader and the scratch -/
theorem rRD.mo (D : rRD dA h0 z0 sv0 op y tt xs rd sc E h z p wr d as sv ws tm W) (R : h1 y = some (r6c tt p1 wr1 rd sc tm1)) (j : jb dA h1 sc sv1 ws1) (hs : sv1 = sv ∨ h sv1 = none) (M : hm_mo h h1 (fun b => b = y ∨ b = sc ∨ b = sv)) (Z : hz_mo z z1) (ht : tm1 = 0 ∨ tm1 = 1) : rRD dA h0 z0 sv0 op y tt xs rd sc E h1 z1 p1 wr1 d as sv1 ws1 tm1 W := by
  obtain ⟨D1, D2, D3, D4, D5, D6, D7, D8, D9, D10, D11, D12, D13⟩ := D
  obtain ⟨mb, nb, fb, b1, b2, br⟩ := id D3
  obtain ⟨mo, r1, r2⟩ := id D4
  obtain ⟨mb1, nb1, fb1, e1, e2, er⟩ := id j
  have nd' : as ≠ [] → ¬ (d = y ∨ d = sc ∨ d = sv) := fun e => by
    rcases r2 with ⟨e9, _⟩ | ⟨_, n, f, c3, _⟩
    · exact absurd e9 e
    · exact fun w => w.elim (hm_ne c3 D1 rfl) (fun w => w.elim (hm_ne c3 b1 rfl) (hm_ne c3 b2 rfl))
  have nrd : ¬ (rd = y ∨ rd = sc ∨ rd = sv) := fun w => w.elim (hm_ne r1 D1 rfl) (fun w => w.elim (hm_ne r1 b1 rfl) (hm_ne r1 b2 rfl))
  have hs0 : sv1 = sv0 ∨ h0 sv1 = none := by
    refine sv_chain (Y := fun b => b = sc ∨ b = sv0) (sv := sv0) D7 (fun b w => w.elim (fun w => Or.inr (by rw [w, b1]; simp)) Or.inl) D9 hs
  refine ⟨R, D2.mo Z, j, D4.mo M nrd nd', D5, fun i hi => ⟨(D6 i hi).1.mo M Z (fun b w => Or.inl ?_) (fun b e hb n f w => ?_) rfl, (D6 i hi).2⟩, fun b e hb n => ?_, D8.trans Z, hs0, D10, D11, D12, ht⟩
  · rcases w with w | w | w
    · exact Or.inl w
    · exact Or.inr (Or.inr (Or.inr (Or.inl w)))
    · exact Or.inr (Or.inr (Or.inr (Or.inr (Or.inl w))))
  · rcases w with w | w | w | w | w | w
    · exact n (Or.inl w)
    · exact n (Or.inr (Or.inl w))
    · exact n (Or.inr (Or.inr (Or.inl w)))
    · exact n (Or.inr (Or.inr (Or.inr (Or.inl w))))
    · rcases hs with q | q
      · exact n (Or.inr (Or.inr (Or.inr (Or.inr (Or.inl (w.trans q))))))
      · rw [w, q] at hb; cases hb
    · exact n (Or.inr (Or.inr (Or.inr (Or.inr (Or.inr w)))))
  · have n1 : b ≠ sc := fun w => n (Or.inl w)
    have n2 : b ≠ sv0 := fun w => n (Or.inr w)
    refine M b e (D7 b e hb n) (fun w => ?_)
    rcases w with w | w | w
    · rw [w, D11] at hb; cases hb
    · exact n1 w
    · rcases D9 with q | q
      · exact n2 (w.trans q)
      · rw [w, q] at hb; cases hb
/-- a step that wrote the reader alone -/
theorem rRD.mo1 (D : rRD dA h0 z0 sv0 op y tt xs rd sc E h z p wr d as sv ws tm W) (R : h1 y = some (r6c tt p1 wr1 rd sc tm1)) (M : hm_mo h h1 (fun b => b = y)) (Z : hz_mo z z1) (ht : tm1 = 0 ∨ tm1 = 1) : rRD dA h0 z0 sv0 op y tt xs rd sc E h1 z1 p1 wr1 d as sv ws tm1 W := by
  have D0 := D
  obtain ⟨D1, D2, D3, r⟩ := D
  obtain ⟨mb, nb, fb, b1, b2, br⟩ := id D3
  exact D0.mo R (D3.mo M (hm_ne b1 D1 rfl) (hm_ne b2 D1 rfl)) (Or.inl rfl) (M.weak (fun b w => Or.inl w)) Z ht
/-- from the reader's world to its error -/
theorem rRD.er (D : rRD dA h0 z0 sv0 op y tt xs rd sc E h z p wr d as sv ws tm W) {e : Nat} (hw : wr = nI e) {K : hm_T → hz_T → Prop} (k : rEr dA h0 z0 sv0 y tt rd sc e K) : K h z := by
  obtain ⟨D1, D2, D3, D4, D5, D6, D7, D8, D9, r⟩ := D
  exact k h z sv p tm ws (by rw [← hw]; exact D1) D3 D9 D7 D8
theorem rl_take' (D : rRD dA h0 z0 sv0 op y tt xs rd sc E h z p wr d as sv ws tm W) (hp : p < 2 ^ 30) {c : Nat} (hc : c < 128) {K : Int32 → hm_T → hz_T → Prop} (k1 : xs.getD p 0 = c → ∀ h1, rRD dA h0 z0 sv0 op y tt xs rd sc E h1 z (p + 1) wr d as sv ws tm W → K 1 h1 z) (k0 : xs.getD p 0 ≠ c → rEr dA h0 z0 sv0 y tt rd sc p (K 0)) : w_TextReader_take6 dA y (nI c) K h z := rl_take D.1 D.2.1 hp hc (fun q h1 R1 M1 => k1 q h1 (D.mo1 R1 M1 hz_mo.refl D.2.2.2.2.2.2.2.2.2.2.2.2)) (fun q h1 R1 M1 => (D.mo1 R1 M1 hz_mo.refl D.2.2.2.2.2.2.2.2.2.2.2.2).er rfl (k0 q))
theorem rl_fail' (D : rRD dA h0 z0 sv0 op y tt xs rd sc E h z p wr d as sv ws tm W) {i : Nat} {K : Int32 → hm_T → hz_T → Prop} (k0 : rEr dA h0 z0 sv0 y tt rd sc i (K 0)) : w_TextReader_failAt6 dA y (nI i) K h z := rl_failAt D.1 (fun h1 R1 M1 => (D.mo1 R1 M1 hz_mo.refl D.2.2.2.2.2.2.2.2.2.2.2.2).er rfl k0)
/-- what is new to the map was none of before's -/
theorem rRD.fr (D : rRD dA h0 z0 sv0 op y tt xs rd sc E h z p wr d as sv ws tm W) {b : Nat} (hb : h b = none) : fr0 h0 sv0 b := by
  obtain ⟨D1, D2, D3, D4, D5, D6, D7, r⟩ := D
  obtain ⟨mb, nb, fb, b1, b2, br⟩ := id D3
  cases e : h0 b with
  | none => exact Or.inl e
  | some f =>
    by_cases w2 : b = sv0
    · exact Or.inr w2
    exfalso
    have n1 : b ≠ sc := fun w => by rw [w, b1] at hb; cases hb
    rw [D7 _ _ e (fun w => w.elim n1 w2)] at hb
    cases hb
/-- a step that wrote cells of the node that is being read, and made some that belong to it -/
theorem rRD.own (D : rRD dA h0 z0 sv0 op y tt xs rd sc E h z p wr d as sv ws tm W) {Y : Nat → Prop} (R : h1 y = some (r6c tt p1 wr1 rd sc tm1)) (j : jb dA h1 sc sv1 ws1) (hs : sv1 = sv ∨ h sv1 = none) (M : hm_mo h h1 Y) (hY : ∀ b, Y b → b = y ∨ b = sc ∨ b = sv ∨ (E b ∧ fr0 h0 sv0 b ∧ b ≠ rd ∧ (as ≠ [] → b ≠ d))) (Z : hz_mo z z1) (ht : tm1 = 0 ∨ tm1 = 1) (hE : ∀ b e, h b = some e → E2 b → E b ∨ b = sv ∨ b = y ∨ b = sc) : rRD dA h0 z0 sv0 op y tt xs rd sc E2 h1 z1 p1 wr1 d as sv1 ws1 tm1 W := by
  have D0 := D
  obtain ⟨D1, D2, D3, D4, D5, D6, D7, D8, D9, D10, D11, D12, D13⟩ := D
  obtain ⟨mb, nb, fb, b1, b2, br⟩ := id D3
  obtain ⟨mo, r1, r2⟩ := id D4
  have nrd : ¬ Y rd := fun w => by
    rcases hY rd w with w | w | w | w
    · exact hm_ne r1 D1 rfl w
    · exact hm_ne r1 b1 rfl w
    · exact hm_ne r1 b2 rfl w
    · exact w.2.2.1 rfl
  have nd' : as ≠ [] → ¬ Y d := fun e w => by
    rcases r2 with ⟨e9, _⟩ | ⟨_, n, f, c3, _⟩
    · exact absurd e9 e
    · rcases hY d w with w | w | w | w
      · exact hm_ne c3 D1 rfl w
      · exact hm_ne c3 b1 rfl w
      · exact hm_ne c3 b2 rfl w
      · exact w.2.2.2 e rfl
  have hs0 : sv1 = sv0 ∨ h0 sv1 = none := sv_chain (Y := fun b => b = sc ∨ b = sv0) (sv := sv0) D7 (fun b w => w.elim (fun w => Or.inr (by rw [w, b1]; simp)) Or.inl) D9 hs
  refine ⟨R, D2.mo Z, j, D4.mo M nrd nd', D5, fun i hi => ⟨(D6 i hi).1.mo M Z (fun b w => Or.inl ?_) (fun b e hb n f w => ?_) rfl, (D6 i hi).2⟩, fun b e hb n => ?_, D8.trans Z, hs0, D10, D11, D12, ht⟩
  · rcases hY b w with w | w | w | w
    · exact Or.inl w
    · exact Or.inr (Or.inr (Or.inr (Or.inl w)))
    · exact Or.inr (Or.inr (Or.inr (Or.inr (Or.inl w))))
    · exact Or.inr (Or.inr (Or.inr (Or.inr (Or.inr w.1))))
  · rcases w with w | w | w | w | w | w
    · exact n (Or.inl w)
    · exact n (Or.inr (Or.inl w))
    · exact n (Or.inr (Or.inr (Or.inl w)))
    · exact n (Or.inr (Or.inr (Or.inr (Or.inl w))))
    · rcases hs with q | q
      · exact n (Or.inr (Or.inr (Or.inr (Or.inr (Or.inl (w.trans q))))))
      · rw [w, q] at hb; cases hb
    · rcases hE b e hb w with k | k | k | k
      · exact n (Or.inr (Or.inr (Or.inr (Or.inr (Or.inr k)))))
      · exact n (Or.inr (Or.inr (Or.inr (Or.inr (Or.inl k)))))
      · exact n (Or.inl k)
      · exact n (Or.inr (Or.inr (Or.inr (Or.inl k))))
  · have n1 : b ≠ sc := fun w => n (Or.inl w)
    have n2 : b ≠ sv0 := fun w => n (Or.inr w)
    refine M b e (D7 b e hb n) (fun w => ?_)
    rcases hY b w with w | w | w | w
    · rw [w, D11] at hb; cases hb
    · exact n1 w
    · rcases D9 with q | q
      · exact n2 (w.trans q)
      · rw [w, q] at hb; cases hb
    · rcases w.2.1 with q | q
      · rw [q] at hb; cases hb
      · exact n2 q
/-- a node more in the list: its cells may be written -/
theorem rRD.pend (D : rRD dA h0 z0 sv0 op y tt xs rd sc eNo h z p wr d as sv ws tm W) {x d1 : Nat} (R : h1 y = some (r6c tt p wr rd sc tm)) (j1 : jb dA h1 sc sv ws) (jr : ja dA h1 rd d1 (as ++ [x])) (hd : (d1 = d ∧ as ≠ []) ∨ h d1 = none) (M : hm_mo h h1 (fun b => b = rd ∨ (b = d ∧ as ≠ []))) (hE : ∀ b, E2 b → h b = none) (hx : ∀ i, i < as.length → as.getD i 0 ≠ x) : rRD dA h0 z0 sv0 op y tt xs rd sc E2 h1 z p wr d1 (as ++ [x]) sv ws tm W := by
  have D0 := D
  obtain ⟨D1, D2, D3, D4, D5, D6, D7, D8, D9, D10, D11, D12, D13⟩ := D
  have frd : fr0 h0 sv0 d1 := by
    rcases hd with ⟨q, e⟩ | q
    · rw [q]; exact D10 e
    · exact D0.fr q
  have D51 := D5.1
  refine ⟨R, D2, j1, jr, ⟨by rw [List.length_append]; omega, fun i j hi hj e => ?_⟩, fun i hi => ?_, fun b e hb n => ?_, D8, D9, fun _ => frd, D11, D12, D13⟩
  · rw [List.length_append] at hi hj
    simp only [List.length_cons, List.length_nil] at hi hj
    by_cases q1 : i < as.length
    · rw [getD_app_l q1] at e
      by_cases q2 : j < as.length
      · rw [getD_app_l q2] at e
        exact D5.2 i j q1 q2 e
      · have e9 : j = as.length := by omega
        subst e9
        rw [getD_app_r] at e
        exact absurd e (hx i q1)
    · have e9 : i = as.length := by omega
      subst e9
      rw [getD_app_r] at e
      by_cases q2 : j < as.length
      · rw [getD_app_l q2] at e
        exact absurd e.symm (hx j q2)
      · omega
  · rw [getD_app_l (show i < as.length by omega)]
    refine ⟨(D6 i hi).1.mo M hz_mo.refl (fun b k => Or.inl ?_) (fun b e hb n f k => ?_) ?_, (D6 i hi).2⟩
    · rcases k with k | k
      · exact Or.inr (Or.inl k)
      · exact Or.inr (Or.inr (Or.inl k))
    · rcases k with k | k | k | k | k | k
      · exact n (Or.inl k)
      · exact n (Or.inr (Or.inl k))
      · rcases hd with q2 | q2
        · exact n (Or.inr (Or.inr (Or.inl ⟨k.1.trans q2.1, q2.2⟩)))
        · rw [k.1, q2] at hb; cases hb
      · exact n (Or.inr (Or.inr (Or.inr (Or.inl k))))
      · exact n (Or.inr (Or.inr (Or.inr (Or.inr (Or.inl k)))))
      · rw [hE b k] at hb; cases hb
    · unfold rPar
      cases e9 : (W.getD i wn0).2.1 with
      | none => rfl
      | some jj =>
        have := (D6 i hi).2 jj e9
        show some ((as ++ [x]).getD jj 0) = some (as.getD jj 0)
        rw [getD_app_l (by omega)]
  · refine M b e (D7 b e hb n) (fun k => ?_)
    rcases k with k | ⟨k, e9⟩
    · rw [k, D12] at hb; cases hb
    · rcases D10 e9 with q | q
      · rw [k, q] at hb; cases hb
      · exact n (Or.inr (k.trans q))
/-- the node has been read -/
theorem rRD.done (D : rRD dA h0 z0 sv0 op y tt xs rd sc E h z p wr d as sv ws tm W) (hl : as.length = W.length + 1) {w : wn} (hn : rN dA h0 sv0 op h z (rQ eNo y rd d sc sv as) as (as.getD W.length 0) w) (hw : ∀ j, w.2.1 = some j → j < W.length) : rRD dA h0 z0 sv0 op y tt xs rd sc eNo h z p wr d as sv ws tm (W ++ [w]) := by
  obtain ⟨D1, D2, D3, D4, D5, D6, D7, D8, D9, D10, D11, D12, D13⟩ := D
  refine ⟨D1, D2, D3, D4, ⟨by rw [List.length_append, hl]; exact Nat.le_refl _, D5.2⟩, fun i hi => ?_, D7, D8, D9, D10, D11, D12, D13⟩
  rw [List.length_append] at hi
  by_cases q : i < W.length
  · have eW : (W ++ [w]).getD i wn0 = W.getD i wn0 := by rw [List.getD_eq_getElem?_getD, List.getElem?_append_left q, ← List.getD_eq_getElem?_getD]
    rw [eW]
    refine ⟨(D6 i q).1.mo (Y := eNo) hm_mo.refl hz_mo.refl (fun b k => k.elim) (fun b e hb n f k => ?_) rfl, (D6 i q).2⟩
    rcases k with k | k | k | k | k | k
    · exact n (Or.inl k)
    · exact n (Or.inr (Or.inl k))
    · exact n (Or.inr (Or.inr (Or.inl k)))
    · exact n (Or.inr (Or.inr (Or.inr (Or.inl k))))
    · exact n (Or.inr (Or.inr (Or.inr (Or.inr (Or.inl k)))))
    · exact k
  · have e9 : i = W.length := by simp at hi; omega
    subst e9
    have eW : (W ++ [w]).getD W.length wn0 = w := by rw [List.getD_eq_getElem?_getD, List.getElem?_append_right (Nat.le_refl _), Nat.sub_self]; rfl
    rw [eW]
    exact ⟨hn, hw⟩
end PL7
-- reading: texts and comments
abbrev pR : Type := Nat ⊕ (Nat × List wn × Bool)
def tmI (b : Bool) : Int32 := if b then 1 else 0
def p_text (xs : List Nat) (par : Option Nat) (dep : Nat) (lab : List Int32) (p : Nat) (W : List wn) (ov : Bool) : pR := match p_val xs 60 200 p [] with
  | .inl e => .inl e
  | .inr (q, v) => .inr (q, W ++ [(2, par, dep, lab, [], v)], ov || decide (20 < v.length))
/-- where the next -- stands -/
def p_dash (xs : List Nat) (p : Nat) : Nat := match mp_fst (fun q => decide (xs.getD q 0 = 45 ∧ xs.getD (q + 1) 0 = 45)) (xs.length - p) p with
  | some q => q
  | none => xs.length
def p_com (xs : List Nat) (par : Option Nat) (dep : Nat) (lab : List Int32) (p : Nat) (W : List wn) (ov : Bool) : pR :=
  if xs.getD (p + 2) 0 ≠ 45 then .inl (p + 2) else if xs.getD (p + 3) 0 ≠ 45 then .inl (p + 3) else if xs.getD (p_dash xs (p + 4)) 0 ≠ 45 then .inl (p_dash xs (p + 4)) else if xs.getD (p_dash xs (p + 4) + 1) 0 ≠ 45 then .inl (p_dash xs (p + 4) + 1) else if xs.getD (p_dash xs (p + 4) + 2) 0 ≠ 62 then .inl (p_dash xs (p + 4) + 2) else .inr (p_dash xs (p + 4) + 3, W ++ [(3, par, dep, lab, [], (xs.drop (p + 4)).take (p_dash xs (p + 4) - (p + 4)))], ov || decide (20 < p_dash xs (p + 4) - (p + 4)))
/-- the outer parent, and how deep what lies in it is -/
def rOp (h0 : hm_T) (op : Option Nat) (od : Nat) : Prop := (op = none ∧ od = 0) ∨ ∃ (o : Nat) (fs : List Value) (v : Nat), op = some o ∧ h0 o = some (.inr (8, fs)) ∧ fs[2]? = some (.int (nI v)) ∧ od = v + 1
/-- how deep a node of this parent is -/
def rDep (W : List wn) (od : Nat) (par : Option Nat) : Nat := match par with
  | none => od
  | some j => (W.getD j wn0).2.2.1 + 1
theorem tm_val {ov : Bool} {n : Nat} : (if tmI ov = 0 ∧ n ≤ 20 then (0 : Int32) else 1) = tmI (ov || decide (20 < n)) := by
  cases ov
  · by_cases q : n ≤ 20
    · rw [if_pos ⟨rfl, q⟩]
      have : decide (20 < n) = false := decide_eq_false (by omega)
      rw [this]; rfl
    · rw [if_neg (fun w => q w.2)]
      have : decide (20 < n) = true := decide_eq_true (by omega)
      rw [this]; rfl
  · rw [if_neg (fun w => absurd w.1 (by decide))]; rfl
theorem tmI_01 (b : Bool) : tmI b = 0 ∨ tmI b = 1 := by cases b <;> simp [tmI]
theorem p_val_er {xs : List Nat} {stop : Nat} : ∀ (f p9 : Nat) (acc : List Nat) {e9 : Nat}, p_val xs stop f p9 acc = .inl e9 → e9 < xs.length := by
  intro f
  induction f with
  | zero => intro p9 acc e9 w; cases w
  | succ f ih =>
    intro p9 acc e9 w
    unfold p_val at w
    by_cases a0 : xs.length ≤ p9
    · rw [if_pos a0] at w; cases w
    rw [if_neg a0] at w
    by_cases a1 : xs.getD p9 0 = 60 ∨ xs.getD p9 0 = stop
    · rw [if_pos a1] at w; cases w
    rw [if_neg a1] at w
    by_cases a2 : xs.getD p9 0 = 38
    · rw [if_pos a2] at w
      cases ea : a_ent xs p9 with
      | none => rw [ea] at w; cases w; omega
      | some x9 => obtain ⟨c9, r9⟩ := x9; rw [ea] at w; exact ih _ _ w
    · rw [if_neg a2] at w; exact ih _ _ w
section PL8
variable {dA : Nat → ClassId} {h0 : hm_T} {z0 : hz_T} {sv0 : Nat} {op : Option Nat} {od y tt : Nat} {xs : List Nat} {rd sc : Nat} {h : hm_T} {z : hz_T} {p : Nat} {wr : Int32} {d : Nat} {as : List Nat} {sv : Nat} {ws ws0 : List Nat} {tm : Int32} {W : List wn} {E : Nat → Prop}
theorem rRD.hop (D : rRD dA h0 z0 sv0 op y tt xs rd sc E h z p wr d as sv ws tm W) (J0 : jb dA h0 sc sv0 ws0) (O : rOp h0 op od) {par : Option Nat} (hp : ∀ j, par = some j → j < W.length) : (rPar op as (0, par, 0, [], [], []) = none ∧ nI (rDep W od par) = 0) ∨ ∃ (o : Nat) (fs : List Value) (v : Int32), rPar op as (0, par, 0, [], [], []) = some o ∧ h o = some (.inr (8, fs)) ∧ fs[2]? = some (.int v) ∧ nI (rDep W od par) = v + 1 := by
  obtain ⟨D1, D2, D3, D4, D5, D6, D7, r⟩ := D
  obtain ⟨mb, nb, fb, b1, b2, br⟩ := id J0
  cases par with
  | none =>
    rcases O with ⟨e1, e2⟩ | ⟨o, fs, v, e1, c1, c2, e2⟩
    · exact Or.inl ⟨e1, by show nI od = 0; rw [e2]; rfl⟩
    · exact Or.inr ⟨o, fs, nI v, e1, D7 _ _ c1 (fun w => w.elim (hm_ne c1 b1 rfl) (hm_ne c1 b2 rfl)), c2, by show nI od = _; rw [e2, nI_1]⟩
  | some j =>
    obtain ⟨l, aq, tx, kt, c1, _⟩ := (D6 j (hp j rfl)).1
    exact Or.inr ⟨as.getD j 0, _, _, rfl, c1, rfl, by show nI ((W.getD j wn0).2.2.1 + 1) = _; rw [nI_1]⟩
theorem rl_make' (D : rRD dA h0 z0 sv0 op y tt xs rd sc eNo h z p wr d as sv ws tm W) (J0 : jb dA h0 sc sv0 ws0) (O : rOp h0 op od) {par : Option Nat} (hp : ∀ j, par = some j → j < W.length) (hl : as.length = W.length) (hl2 : as.length ≤ 130) {kd l : Nat} {lab : List Int32} (hL : cp_lab dA h l lab) (nl : ¬ rQ eNo y rd d sc sv as l) (fl : fr0 h0 sv0 l) {c s : Nat} (hc : 3 ≤ c) (hs : 212 ≤ s) {K : Option Nat → hm_T → hz_T → Prop}
    (hK : ∀ (h1 : hm_T) (x aq e1 e2 d1 : Nat), rRD dA h0 z0 sv0 op y tt xs rd sc (fun b => b = x ∨ b = aq) h1 z p wr d1 (as ++ [x]) sv ws tm W → h1 x = some (.inr (8, [.int (nI kd), va_rf (rPar op (as ++ [x]) (0, par, 0, [], [], [])), .int (nI (rDep W od par)), .ref l, .ref aq, .int (-1), .int (-1), .ref e1, .ref e2])) → (∃ u, z e1 = some (u, [])) → (∃ u, z e2 = some (u, [])) → ja dA h1 aq (dA 99) [] → fr0 h0 sv0 x → fr0 h0 sv0 aq → (∀ b, (b = x ∨ b = aq ∨ b = l) → ¬ rQ eNo y rd d1 sc sv (as ++ [x]) b) → cp_lab dA h1 l lab → K (some x) h1 z) : w_MarkupReader_make dA y (nI kd) (rPar op as (0, par, 0, [], [], [])) (some l) c s K h z := by
  have D0 := D
  have hop := D.hop J0 O hp
  obtain ⟨D1, D2, D3, D4, D5, D6, D7, D8, D9, D10, D11, D12, D13⟩ := D
  obtain ⟨mb, nb, fb, b1, b2, br⟩ := id D3
  obtain ⟨mo, r1, r2⟩ := id D4
  obtain ⟨lf, L1, L2⟩ := id hL
  have jo1 : ∀ i, i < as.length → jo h (as.getD i 0) := fun i hi => by
    obtain ⟨l9, aq, tx, kt, c1, _⟩ := (D6 i (by omega)).1
    exact ⟨8, _, c1, Or.inl rfl⟩
  refine rl_make D1 D4 hl2 jo1 hop hc hs (fun h1 x aq e1 e2 d1 c1 z1 z2 j1 hx hq jr hd M => ?_)
  have n104 : ∀ {b : Nat} {e : va_E}, h b = some e → Nat.beq (hm_tag e) 4 = false → Nat.beq (hm_tag e) 104 = false → ¬ (b = rd ∨ (b = d ∧ as ≠ [])) := fun hb t4 t104 w => by
    rcases w with w | ⟨w, e⟩
    · exact hm_ne hb r1 t4 w
    · rcases r2 with ⟨e9, _⟩ | ⟨_, n, f, c3, _⟩
      · exact e e9
      · exact hm_ne hb c3 t104 w
  have R1 := M _ _ D1 (n104 D1 rfl rfl)
  have jS1 := D3.mo M (n104 b1 rfl rfl) (n104 b2 rfl rfl)
  obtain ⟨mb1, nb1, fb1, s1, s2, sr⟩ := id jS1
  obtain ⟨mo1, k1, k2⟩ := id jr
  have kd1 : ∃ n f, h1 d1 = some (.inl (dA 6, n, .inr (.inr (.inr (.inr f))))) := by
    rcases k2 with ⟨k2, _⟩ | ⟨_, n, f, c3, _⟩
    · exact absurd k2 (by simp)
    · exact ⟨n, f, c3⟩
  obtain ⟨n1, f1, c3⟩ := kd1
  obtain ⟨mo2, q1, q2⟩ := id j1
  have L1' := M _ _ L1 (n104 L1 rfl rfl)
  have hpar : rPar op (as ++ [x]) (0, par, 0, [], [], []) = rPar op as (0, par, 0, [], [], []) := by
    unfold rPar
    cases par with
    | none => rfl
    | some j =>
      show some ((as ++ [x]).getD j 0) = some (as.getD j 0)
      rw [getD_app_l (by have := hp j rfl; omega)]
  have hE : ∀ b, (b = x ∨ b = aq) → h b = none := fun b w => w.elim (fun w => by rw [w]; exact hx) (fun w => by rw [w]; exact hq)
  refine hK h1 x aq e1 e2 d1 (D0.pend R1 jS1 jr hd M hE (fun i hi w => by obtain ⟨ci, fs, c9, _⟩ := jo1 i hi; rw [w, hx] at c9; cases c9)) (by rw [hpar]; exact c1) z1 z2 j1 (D0.fr hx) (D0.fr hq) (fun b w k => ?_) ⟨lf, L1', L2⟩
  rcases w with w | w | w <;> subst w
  · rcases k with k | k | k | k | k | k
    · rw [k, D1] at hx; cases hx
    · rw [k, r1] at hx; cases hx
    · exact hm_ne c1 c3 rfl k.1
    · rw [k, b1] at hx; cases hx
    · rw [k, b2] at hx; cases hx
    · exact k
  · rcases k with k | k | k | k | k | k
    · rw [k, D1] at hq; cases hq
    · rw [k, r1] at hq; cases hq
    · exact hm_ne q1 c3 rfl k.1
    · rw [k, b1] at hq; cases hq
    · rw [k, b2] at hq; cases hq
    · exact k
  · rcases k with k | k | k | k | k | k
    · exact nl (Or.inl k)
    · exact nl (Or.inr (Or.inl k))
    · exact hm_ne L1' c3 rfl k.1
    · exact nl (Or.inr (Or.inr (Or.inr (Or.inl k))))
    · exact nl (Or.inr (Or.inr (Or.inr (Or.inr (Or.inl k)))))
    · exact k
/-- a node with its text written is read: no attributes -/
theorem rRD.leaf {x aq e2 l tx : Nat} {par : Option Nat} {kd dep : Nat} {lab : List Int32} {v : List Nat} (D : rRD dA h0 z0 sv0 op y tt xs rd sc (fun b => b = x ∨ b = aq) h z p wr d (as ++ [x]) sv ws tm W) (hl : as.length = W.length) (hp : ∀ j, par = some j → j < W.length) (c1 : h x = some (.inr (8, [.int (nI kd), va_rf (rPar op (as ++ [x]) (0, par, 0, [], [], [])), .int (nI dep), .ref l, .ref aq, .int (-1), .int (-1), .ref tx, .ref e2]))) (hz : ∃ u, z tx = some (u, v)) (hz2 : ∃ u, z e2 = some (u, [])) (ja0 : ja dA h aq (dA 99) []) (fx : fr0 h0 sv0 x) (fa : fr0 h0 sv0 aq) (fl : fr0 h0 sv0 l) (nQ : ∀ b, (b = x ∨ b = aq ∨ b = l) → ¬ rQ eNo y rd d sc sv (as ++ [x]) b) (hL : cp_lab dA h l lab) : rRD dA h0 z0 sv0 op y tt xs rd sc eNo h z p wr d (as ++ [x]) sv ws tm (W ++ [(kd, par, dep, lab, [], v)]) := by
  refine D.done (by rw [List.length_append, hl]; rfl) ?_ hp
  rw [← hl, getD_app_r]
  exact ⟨l, aq, tx, e2, c1, nQ _ (Or.inl rfl), fx, hL, nQ _ (Or.inr (Or.inr rfl)), fl, ⟨dA 99, [], ja0, fun w => w.elim (nQ _ (Or.inr (Or.inl rfl))) (fun w => w fa), fun w => absurd rfl w, rfl, fun j hj => absurd hj (Nat.not_lt_zero _)⟩, hz, hz2⟩
end PL8
