-- reading: nodes are made
theorem ja.mo2 {dA : Nat → ClassId} {h h1 : hm_T} {q d : Nat} {as : List Nat} {Y : Nat → Prop} (j : ja dA h q d as) (M : hm_mo h h1 Y) (hq : ¬ Y q) (hd : as ≠ [] → ¬ Y d) : ja dA h1 q d as := j.mo M hq hd
section PL5
variable {dA : Nat → ClassId} {h : hm_T} {z : hz_T} {y tt p rd sc d x l : Nat} {wr tm : Int32} {xs as : List Nat}
/-- the constructor of a node: everything but its text -/
theorem rl_nodeInit {kd dp : Int32} {op : Option Nat} (c0 : h x = some (.inr (8, [.int 0, .null, .int 0, .null, .null, .int 0, .int 0, .null, .null]))) (hop : (op = none ∧ dp = 0) ∨ ∃ (o : Nat) (fs : List Value) (v : Int32), op = some o ∧ o ≠ x ∧ h o = some (.inr (8, fs)) ∧ fs[2]? = some (.int v) ∧ dp = v + 1) {c s : Nat} (hc : 1 ≤ c) (hs : 3 ≤ s) {K : hm_T → hz_T → Prop}
    (hK : ∀ (h1 : hm_T) (aq e1 e2 : Nat), h1 x = some (.inr (8, [.int kd, va_rf op, .int dp, .ref l, .ref aq, .int (-1), .int (-1), .ref e1, .ref e2])) → (∃ u, z e1 = some (u, [])) → (∃ u, z e2 = some (u, [])) → ja dA h1 aq (dA 99) [] → h aq = none → hm_mo h h1 (fun b => b = x) → K h1 z) : w_Node_init dA x kd op (some l) c s K h z := by
  have go : w_Node_init_29 dA x K (some l) dp c s (hm_u h x (.inr (8, [.int kd, va_rf op, .int 0, .null, .null, .int 0, .int 0, .null, .null]))) z := by
    unfold w_Node_init_29
    refine cg_p_of hm_s (show 2 < 9 by decide) (cg_p_of hm_s (show 3 < 9 by decide) ?_)
    rw [hm_uu, hm_uu]
    refine cg_new_of hc hs (fun aq hq => ?_)
    have n1 : aq ≠ x := fun w => by rw [w, hm_s] at hq; cases hq
    have hq0 : h aq = none := by rw [hm_n n1] at hq; exact hq
    refine cg_c_of hm_s (cg_rm_0 (ja_init hm_s (fun h1 j1 M1 => ?_)))
    have hx1 := M1 _ _ (show (hm_u (hm_u h x _) aq _ : hm_T) x = some _ by rw [hm_n (Ne.symm n1)]; exact hm_s) (Ne.symm n1)
    refine cg_p_of hx1 (show 4 < 9 by decide) (cg_p_of hm_s (show 5 < 9 by decide) (cg_p_of hm_s (show 6 < 9 by decide) (fun e1 u1 z1 => cg_p_of hm_s (show 7 < 9 by decide) (fun e2 u2 z2 => cg_p_of hm_s (show 8 < 9 by decide) ?_))))
    rw [hm_uu, hm_uu, hm_uu, hm_uu]
    refine hK _ aq e1 e2 hm_s ⟨u1, z1⟩ ⟨u2, z2⟩ (j1.mo (Y := fun b => b = x) (hm_mo.u rfl) n1 (fun w => absurd rfl w)) hq0 (fun b e hb n => ?_)
    rw [hm_n n]
    refine M1 b e ?_ (hm_nn hb hq0)
    rw [hm_n (hm_nn hb hq0), hm_n n]
    exact hb
  unfold w_Node_init
  refine cg_p_of c0 (show 0 < 9 by decide) (cg_p_of hm_s (show 1 < 9 by decide) ?_)
  rw [hm_uu]
  rcases hop with ⟨e1, e2⟩ | ⟨o, fs, v, e1, n1, c1, c2, e2⟩
  · subst e1 e2
    exact if_yes rfl go
  · subst e1 e2
    exact if_no (by simp) (cg_d_of (cg_I_of (show (hm_u h x _ : hm_T) o = some (.inr (8, fs)) by rw [hm_n n1]; exact c1) c2 go))
theorem rl_make {kd dp : Int32} {op : Option Nat} (R : h y = some (r6c tt p wr rd sc tm)) (j : ja dA h rd d as) (hl : as.length ≤ 130) (ja1 : ∀ i, i < as.length → jo h (as.getD i 0)) (hop : (op = none ∧ dp = 0) ∨ ∃ (o : Nat) (fs : List Value) (v : Int32), op = some o ∧ h o = some (.inr (8, fs)) ∧ fs[2]? = some (.int v) ∧ dp = v + 1) {c s : Nat} (hc : 3 ≤ c) (hs : 212 ≤ s) {K : Option Nat → hm_T → hz_T → Prop}
    (hK : ∀ (h1 : hm_T) (x aq e1 e2 d1 : Nat), h1 x = some (.inr (8, [.int kd, va_rf op, .int dp, .ref l, .ref aq, .int (-1), .int (-1), .ref e1, .ref e2])) → (∃ u, z e1 = some (u, [])) → (∃ u, z e2 = some (u, [])) → ja dA h1 aq (dA 99) [] → h x = none → h aq = none → ja dA h1 rd d1 (as ++ [x]) → ((d1 = d ∧ as ≠ []) ∨ h d1 = none) → hm_mo h h1 (fun b => b = rd ∨ (b = d ∧ as ≠ [])) → K (some x) h1 z) : w_MarkupReader_make dA y kd op (some l) c s K h z := by
  obtain ⟨mo, r1, r2⟩ := id j
  unfold w_MarkupReader_make
  refine cg_new_of (by omega) (by omega) (fun x hx => cg_c_of hm_s (cg_rm_of (c1 := 1) (s1 := 3) (by omega) (by omega) ?_))
  have M0 : ∀ e, hm_mo h (hm_u h x e) (fun _ => False) := fun e b f hb _ => by rw [hm_n (hm_nn hb hx)]; exact hb
  have hop2 : (op = none ∧ dp = 0) ∨ ∃ (o : Nat) (fs : List Value) (v : Int32), op = some o ∧ o ≠ x ∧ (hm_u h x (.inr (8, [.int 0, .null, .int 0, .null, .null, .int 0, .int 0, .null, .null])) : hm_T) o = some (.inr (8, fs)) ∧ fs[2]? = some (.int v) ∧ dp = v + 1 := by
    rcases hop with w | ⟨o, fs, v, e1, c1, c2, e2⟩
    · exact Or.inl w
    · exact Or.inr ⟨o, fs, v, e1, hm_nn c1 hx, M0 _ _ _ c1 id, c2, e2⟩
  refine rl_nodeInit hm_s hop2 (Nat.le_refl _) (Nat.le_refl _) (fun h1 aq e1 e2 c1 z1 z2 j1 hq M1 => ?_)
  have n1 : aq ≠ x := fun w => by rw [w, hm_s] at hq; cases hq
  have hq0 : h aq = none := by rw [hm_n n1] at hq; exact hq
  have M2 : hm_mo h h1 (fun _ => False) := fun b e hb _ => M1 b e (M0 _ b e hb id) (hm_nn hb hx)
  have R1 := M2 _ _ R id
  have jr := j.mo M2 id (fun _ => id)
  have jox : jo h1 x := ⟨8, _, c1, Or.inl rfl⟩
  refine cg_R_ref R1 rfl (cg_d_of (cg_c_of (M2 _ _ r1 id) (cg_rm_of (c1 := 1) (s1 := 200) (by omega) (by omega) ?_)))
  refine ja_add jr hl jox (fun i hi => (ja1 i hi).mo M2 id) (Nat.le_refl _) (Nat.le_refl _) (fun h2 d1 j2 hd M3 => ?_)
  have xr : x ≠ rd := Ne.symm (hm_nn r1 hx)
  have ar : aq ≠ rd := Ne.symm (hm_nn r1 hq0)
  have dd : ∀ b, h b = none → ¬ (b = rd ∨ (b = d ∧ as ≠ [])) := fun b hb w => by
    rcases w with w | ⟨w, e⟩
    · rw [w, r1] at hb; cases hb
    · rcases r2 with ⟨e9, _⟩ | ⟨_, n, f, c3, _⟩
      · exact e e9
      · rw [w, c3] at hb; cases hb
  refine hK h2 x aq e1 e2 d1 (M3 _ _ c1 (dd x hx)) z1 z2 (j1.mo M3 (dd aq hq0) (fun w => absurd rfl w)) hx hq0 j2 ?_ (fun b e hb n => M3 b e (M2 b e hb id) n)
  rcases hd with w | w
  · exact Or.inl w
  · refine Or.inr ?_
    cases e9 : h d1 with
    | none => rfl
    | some e => rw [M2 _ _ e9 id] at w; cases w
/-- the label of a child -/
theorem rl_child {fs : List Value} {lab : List Int32} (c1 : h x = some (.inr (8, fs))) (c2 : fs[3]? = some (.ref l)) (hl : cp_lab dA h l lab) (h16 : lab.length ≤ 30) {k c s : Nat} (hc : 1 ≤ c) (hs : 31 ≤ s) {K : Option Nat → hm_T → hz_T → Prop} (hK : ∀ (h1 : hm_T) (l1 : Nat), cp_lab dA h1 l1 (lab ++ [2 * nI k + 1]) → h l1 = none → hm_mo h h1 (fun _ => False) → K (some l1) h1 z) : w_Node_labelOfChild dA x (nI k) c s K h z := by
  obtain ⟨f, f1, f2⟩ := hl
  unfold w_Node_labelOfChild
  refine cg_R_ref c1 c2 (cg_R_ref c1 c2 (cg_d_of (cg_al_of f1 (cg_rm_of hc hs ?_))))
  unfold w_Arrays_copyOfI
  rw [nI_1]
  refine cg_d_of (cg_al_of f1 (if_no (fun w => by have := (nI_eq (by omega) (by omega)).mp w; omega) ⟨lab.length + 1, 0, 31 - (lab.length + 1), rfl, by omega, rfl, by omega, fun q hq => ?_⟩))
  have M0 : ∀ e, hm_mo h (hm_u h q e) (fun _ => False) := fun e b g hb _ => by rw [hm_n (hm_nn hb hq)]; exact hb
  have nl : l ≠ q := hm_nn f1 hq
  refine cg_d_of (cg_al_of (M0 _ _ _ f1 id) (cg_d_of ?_))
  rw [if_neg (show ¬ nI (lab.length + 1) < nI lab.length from nI_nlt (by omega) (by omega))]
  refine ⟨lab.length, lab.length, lab.length + 1, f, _, rfl, M0 _ _ _ f1 id, hm_s, Nat.le_refl _, by omega, by omega, by omega, ?_⟩
  rw [hm_uu]
  have c3 : ∀ e, (hm_u h q e : hm_T) x = some (.inr (8, fs)) := fun e => M0 _ _ _ c1 id
  refine cg_R_ref (c3 _) c2 (cg_d_of (cg_al_of (M0 _ _ _ f1 id) (cg_d_of (cg_si_of hm_s (by omega) (by omega) ?_))))
  rw [hm_uu]
  refine hK _ q ⟨_, by rw [List.length_append]; exact hm_s, fun i hi => ?_⟩ hq (M0 _)
  rw [List.length_append] at hi
  rw [List.getD_eq_getElem?_getD]
  unfold upd
  by_cases w : i = lab.length
  · subst w
    rw [if_pos rfl, List.getElem?_append_right (Nat.le_refl _), Nat.sub_self]
    rfl
  · have hi2 : i < lab.length := by simp at hi; omega
    rw [if_neg w, List.getElem?_append_left hi2, ← List.getD_eq_getElem?_getD]
    unfold va_cpy
    rw [if_pos (by omega), Nat.zero_add, Nat.sub_zero]
    exact f2 i hi2
/-- the attribute of this name, if there is one -/
theorem rl_named {fs : List Value} {aq ad : Nat} {aas : List Nat} {att : List (List Nat × List Nat)} {tn un : Nat} {nm : List Nat} (c1 : h x = some (.inr (8, fs))) (c2 : fs[4]? = some (.ref aq)) (j : ja dA h aq ad aas) (el : aas.length = att.length) (ra : ∀ i, i < att.length → cp_at1 h z (aas.getD i 0) (att.getD i ([], []))) (hz : z tn = some (un, nm)) (hn : nm.length < 1000) (hc : ∀ c ∈ nm, c < 128) (ha : ∀ q ∈ att, q.1.length < 1000 ∧ ∀ c ∈ q.1, c < 128) (hal : att.length < 1000) {K : Option Nat → hm_T → hz_T → Prop} (k0 : (∀ q ∈ att, q.1 ≠ nm) → K none h z) (k1 : ∀ i, i < att.length → (att.getD i ([], [])).1 = nm → (∀ j, j < i → (att.getD j ([], [])).1 ≠ nm) → K (some (aas.getD i 0)) h z) : w_Node_attributeNamed dA x (some tn) K h z := by
  have loop : ∀ (r fu i : Nat), i + r = att.length → r < fu → (∀ k, k < i → (att.getD k ([], [])).1 ≠ nm) → w_Node_attributeNamed_2 dA x K fu (some tn) (nI i) h z := by
    obtain ⟨mo, j1, j2⟩ := id j
    intro r
    induction r with
    | zero =>
      intro fu i hi hf hk
      obtain ⟨fu, rfl⟩ : ∃ f, fu = f + 1 := ⟨fu - 1, by omega⟩
      unfold w_Node_attributeNamed_2
      refine cg_R_ref c1 c2 (cg_d_of ⟨ad, aas.length, mo, j1, if_yes (nI_le (by omega) (by omega)) (k0 (fun q hq => ?_))⟩)
      obtain ⟨n, hn1, hn2⟩ := List.getElem_of_mem hq
      have := hk n (by omega)
      rw [List.getD_eq_getElem?_getD, List.getElem?_eq_getElem hn1] at this
      rw [← hn2]
      exact this
    | succ r ih =>
      intro fu i hi hf hk
      obtain ⟨fu, rfl⟩ : ∃ f, fu = f + 1 := ⟨fu - 1, by omega⟩
      have hlt : i < att.length := by omega
      obtain ⟨p1, p2, u1, u2, a1, a2, a3⟩ := ra i hlt
      have hmem : att.getD i ([], []) ∈ att := by
        rw [List.getD_eq_getElem?_getD, List.getElem?_eq_getElem hlt]
        exact List.getElem_mem hlt
      have hp := ha _ hmem
      have get : ∀ {K : Nat → Prop}, K (aas.getD i 0) → jd_get dA h aq (nI i) K := fun {K} hK => by
        rcases j2 with ⟨e, _⟩ | ⟨e, n9, f, c3, l1, l2, l3⟩
        · rw [e] at el; simp at el; omega
        · exact ⟨ad, aas.length, mo, n9, i, _, f, j1, c3, rfl, by omega, l1, by omega, l3 i (by omega), hK⟩
      unfold w_Node_attributeNamed_2
      refine cg_R_ref c1 c2 (cg_d_of ⟨ad, aas.length, mo, j1, if_no (nI_ge (by omega) (by omega)) (cg_R_ref c1 c2 (cg_d_of (get (cg_c_of a1 (cg_c_of a1 ?_)))))⟩)
      unfold w_Attribute_name
      refine cg_R_ref a1 rfl (cg_d_of (cg_d_of ⟨u1, _, un, nm, a2, hz, by omega, by omega, hp.2, hc, ?_⟩))
      by_cases w : (att.getD i ([], [])).1 = nm
      · rw [if_pos w]
        exact if_no (by decide) (cg_R_ref c1 c2 (cg_d_of (get (cg_c_of a1 (k1 i hlt w hk)))))
      · rw [if_neg w, nI_1]
        refine if_yes rfl (ih fu (i + 1) (by omega) (by omega) (fun k hk2 => ?_))
        by_cases e : k = i
        · rw [e]; exact w
        · exact hk k (by omega)
  unfold w_Node_attributeNamed
  exact loop att.length mF 0 (by omega) (by unfold mF; omega) (fun k hk => absurd hk (Nat.not_lt_zero _))
theorem rl_endTagL (t : rT z tt xs) {fs : List Value} {tx ut : Nat} {nm : List Nat} (c2 : fs[7]? = some (.ref tx)) (hz : z tx = some (ut, nm)) (hn : nm.length < 1000) (hcn : ∀ c ∈ nm, c < 128) (xy : x ≠ y) {K : Int32 → hm_T → hz_T → Prop} : ∀ (r fu i p : Nat) (h : hm_T), i + r = nm.length → r < fu → p + r < 2 ^ 28 → h y = some (r6c tt p wr rd sc tm) → h x = some (.inr (8, fs)) →
    ((∀ k, k < r → xs.getD (p + k) 0 = nm.getD (i + k) 0) → xs.getD (p + r) 0 = 62 → ∀ h1, h1 y = some (r6c tt (p + r + 1) wr rd sc tm) → hm_mo h h1 (fun b => b = y) → K 1 h1 z) →
    (∀ e, (∃ k, k ≤ r ∧ e = p + k ∧ (∀ j, j < k → xs.getD (p + j) 0 = nm.getD (i + j) 0) ∧ (if k < r then xs.getD (p + k) 0 ≠ nm.getD (i + k) 0 else xs.getD (p + k) 0 ≠ 62)) → ∀ h1 p1, h1 y = some (r6c tt p1 (nI e) rd sc tm) → hm_mo h h1 (fun b => b = y) → K 0 h1 z) → w_MarkupReader_readEndTag_12 dA y K fu (some x) (nI i) h z := by
  intro r
  induction r with
  | zero =>
    intro fu i p h hi hf hp R c1 k1 k0
    obtain ⟨fu, rfl⟩ : ∃ f, fu = f + 1 := ⟨fu - 1, by omega⟩
    unfold w_MarkupReader_readEndTag_12
    refine cg_d_of (cg_R_ref c1 c2 (cg_d_of ⟨ut, nm, hz, if_yes (nI_le (by omega) (by omega)) (cg_c_of R (rl_take (c := 62) R t (by omega) (by decide) (fun q h1 R1 M1 => ?_) (fun q h1 R1 M1 => ?_)))⟩))
    · exact ⟨Or.inr rfl, k1 (fun k hk => absurd hk (Nat.not_lt_zero _)) q h1 R1 M1⟩
    · exact ⟨Or.inl rfl, k0 p ⟨0, Nat.le_refl _, rfl, fun j hj => absurd hj (Nat.not_lt_zero _), by rw [if_neg (Nat.lt_irrefl _)]; exact q⟩ h1 p R1 M1⟩
  | succ r ih =>
    intro fu i p h hi hf hp R c1 k1 k0
    obtain ⟨fu, rfl⟩ : ∃ f, fu = f + 1 := ⟨fu - 1, by omega⟩
    unfold w_MarkupReader_readEndTag_12
    refine cg_d_of (cg_R_ref c1 c2 (cg_d_of ⟨ut, nm, hz, if_no (nI_ge (by omega) (by omega)) (cg_d_of (cg_R_ref c1 c2 (cg_d_of ⟨ut, nm, i, hz, rfl, by omega, by omega, hcn, cg_c_of R (rl_take R t (by omega) (getD_lt hcn i) (fun q h1 R1 M1 => ?_) (fun q h1 R1 M1 => ?_))⟩)))⟩))
    · rw [nI_1]
      refine if_no (by decide) (ih fu (i + 1) (p + 1) h1 (by omega) (by omega) (by omega) R1 (M1 _ _ c1 xy) (fun a1 a2 h2 R2 M2 => ?_) (fun e ⟨k, b1, b2, b3, b4⟩ h2 p2 R2 M2 => ?_))
      · refine k1 (fun k hk => ?_) (by rw [show p + (r + 1) = p + 1 + r by omega]; exact a2) h2 (by rw [show p + (r + 1) + 1 = p + 1 + r + 1 by omega]; exact R2) (M1.trans M2)
        cases k with
        | zero => exact q
        | succ k => rw [show p + (k + 1) = p + 1 + k by omega, show i + (k + 1) = i + 1 + k by omega]; exact a1 k (by omega)
      · refine k0 e ⟨k + 1, by omega, by omega, fun j hj => ?_, ?_⟩ h2 p2 R2 (M1.trans M2)
        · cases j with
          | zero => exact q
          | succ j => rw [show p + (j + 1) = p + 1 + j by omega, show i + (j + 1) = i + 1 + j by omega]; exact b3 j (by omega)
        · rw [show p + (k + 1) = p + 1 + k by omega, show i + (k + 1) = i + 1 + k by omega]
          by_cases w : k < r
          · rw [if_pos (by omega)]
            rw [if_pos w] at b4
            exact b4
          · rw [if_neg (by omega)]
            rw [if_neg w] at b4
            exact b4
    · exact if_yes rfl (k0 p ⟨0, by omega, rfl, fun j hj => absurd hj (Nat.not_lt_zero _), by rw [if_pos (by omega)]; exact q⟩ h1 p R1 M1)
end PL5
