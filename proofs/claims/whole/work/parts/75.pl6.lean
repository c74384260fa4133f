-- reading: an attribute
/-- the attribute whose name begins at p, or the place of the first error -/
def p_att (xs : List Nat) (p : Nat) (as : List (List Nat × List Nat)) : Nat ⊕ (Nat × (List Nat × List Nat)) :=
  if a_let xs p = 0 ∨ (∃ q ∈ as, q.1 = (xs.drop p).take (a_let xs p)) then .inl p else if xs.getD (p + a_let xs p) 0 ≠ 61 then .inl (p + a_let xs p) else if xs.getD (p + a_let xs p + 1) 0 ≠ 34 then .inl (p + a_let xs p + 1) else match p_val xs 34 200 (p + a_let xs p + 2) [] with
    | .inl e => .inl e
    | .inr (q, v) => if xs.getD q 0 = 34 then .inr (q + 1, ((xs.drop p).take (a_let xs p), v)) else .inl q
def aE (r : Nat ⊕ (Nat × (List Nat × List Nat))) : Nat := match r with
  | .inl e => e
  | .inr (q, _) => q
theorem getD_pos {xs : List Nat} {p c : Nat} (h : xs.getD p 0 = c) (hc : c ≠ 0) : p < xs.length := by
  rcases Nat.lt_or_ge p xs.length with q | q
  · exact q
  · rw [List.getD_eq_getElem?_getD, List.getElem?_eq_none q] at h
    exact absurd h.symm hc
theorem p_val_le {xs : List Nat} {stop : Nat} : ∀ (f p : Nat) (acc : List Nat) {q : Nat} {v : List Nat}, p ≤ xs.length → p_val xs stop f p acc = .inr (q, v) → p ≤ q ∧ q ≤ xs.length ∧ v.length ≤ acc.length + (q - p) := by
  intro f
  induction f with
  | zero => intro p acc q v hp e; cases e; exact ⟨Nat.le_refl _, hp, by omega⟩
  | succ f ih =>
    intro p acc q v hp e
    unfold p_val at e
    by_cases q0 : xs.length ≤ p
    · rw [if_pos q0] at e; cases e; exact ⟨Nat.le_refl _, hp, by omega⟩
    rw [if_neg q0] at e
    by_cases q1 : xs.getD p 0 = 60 ∨ xs.getD p 0 = stop
    · rw [if_pos q1] at e; cases e; exact ⟨Nat.le_refl _, hp, by omega⟩
    rw [if_neg q1] at e
    by_cases q2 : xs.getD p 0 = 38
    · rw [if_pos q2] at e
      cases ea : a_ent xs p with
      | none => rw [ea] at e; cases e
      | some x =>
        obtain ⟨c, r⟩ := x
        rw [ea] at e
        have h1 := a_ent_some ea
        have := ih (r + 1) _ (by omega) e
        rw [List.length_append] at this
        simp at this
        omega
    · rw [if_neg q2] at e
      have := ih (p + 1) _ (by omega) e
      rw [List.length_append] at this
      simp at this
      omega
theorem p_val_ch {xs : List Nat} {stop : Nat} (hx : ∀ c ∈ xs, c < 128) : ∀ (f p : Nat) (acc : List Nat) {q : Nat} {v : List Nat}, (∀ c ∈ acc, c < 128) → p_val xs stop f p acc = .inr (q, v) → ∀ c ∈ v, c < 128 := by
  intro f
  induction f with
  | zero => intro p acc q v ha e; cases e; exact ha
  | succ f ih =>
    intro p acc q v ha e
    have snoc : ∀ x : Nat, x < 128 → ∀ c ∈ acc ++ [x], c < 128 := fun x hx c hc => by
      rcases List.mem_append.mp hc with w | w
      · exact ha c w
      · rw [List.mem_singleton.mp w]; exact hx
    unfold p_val at e
    by_cases q0 : xs.length ≤ p
    · rw [if_pos q0] at e; cases e; exact ha
    rw [if_neg q0] at e
    by_cases q1 : xs.getD p 0 = 60 ∨ xs.getD p 0 = stop
    · rw [if_pos q1] at e; cases e; exact ha
    rw [if_neg q1] at e
    by_cases q2 : xs.getD p 0 = 38
    · rw [if_pos q2] at e
      cases ea : a_ent xs p with
      | none => rw [ea] at e; cases e
      | some x =>
        obtain ⟨c, r⟩ := x
        rw [ea] at e
        exact ih (r + 1) _ (snoc c (a_ent_some ea).2.2) e
    · rw [if_neg q2] at e
      exact ih (p + 1) _ (snoc _ (getD_lt hx p)) e
/-- what the reader has come to when it has failed at e -/
def rErr (dA : Nat → ClassId) (h : hm_T) (z : hz_T) (Y : Nat → Prop) (y tt rd sc sv e : Nat) (K : hm_T → hz_T → Prop) : Prop := ∀ (h1 : hm_T) (z1 : hz_T) (sv1 p1 : Nat) (tm1 : Int32) (ws1 : List Nat), h1 y = some (r6c tt p1 (nI e) rd sc tm1) → jb dA h1 sc sv1 ws1 → (sv1 = sv ∨ h sv1 = none) → hm_mo h h1 Y → hz_mo z z1 → K h1 z1
theorem Y_aq {b y sc sv aq ad : Nat} {aas : List Nat} (w : b = y) : b = y ∨ b = sc ∨ b = sv ∨ b = aq ∨ (b = ad ∧ aas ≠ []) := Or.inl w
theorem rl_attr_room {L V p a c s : Nat} (hV : V ≤ L) (hc : 7 + 11 * (L + 1 - p) ≤ c) (hs : 640 + 872 * (L + 1 - p) ≤ s) : 3 + 11 * (V + 1 - (p + 1 + a + 1 + 1)) ≤ c - 2 ∧ 288 + 872 * (V + 1 - (p + 1 + a + 1 + 1)) ≤ s - 146 ∧ 1 ≤ c - 2 - (3 + 11 * (V + 1 - (p + 1 + a + 1 + 1))) ∧ 2 ≤ s - 146 - (288 + 872 * (V + 1 - (p + 1 + a + 1 + 1))) ∧ 1 ≤ c - 2 - (3 + 11 * (V + 1 - (p + 1 + a + 1 + 1))) - 1 ∧ 200 ≤ s - 146 - (288 + 872 * (V + 1 - (p + 1 + a + 1 + 1))) - 2 := by omega
theorem rl_attr_room0 {L p c s : Nat} (hc : 7 + 11 * (L + 1 - p) ≤ c) (hs : 640 + 872 * (L + 1 - p) ≤ s) : 2 ≤ c ∧ 146 ≤ s := by omega
section PL6
variable {dA : Nat → ClassId} {h : hm_T} {z : hz_T} {y tt rd sc sv p x aq ad : Nat} {tm : Int32} {xs ws aas : List Nat} {fs : List Value} {att : List (List Nat × List Nat)}
theorem rl_attr (R : h y = some (r6c tt p (-1) rd sc tm)) (t : rT z tt xs) (jS : jb dA h sc sv ws) (ht : tm = 0 ∨ tm = 1) (hp : p < xs.length) (c1 : h x = some (.inr (8, fs))) (c2 : fs[4]? = some (.ref aq)) (j : ja dA h aq ad aas) (el : aas.length = att.length) (ra : ∀ i, i < att.length → cp_at1 h z (aas.getD i 0) (att.getD i ([], []))) (ha : ∀ q ∈ att, q.1.length < 1000 ∧ ∀ c ∈ q.1, c < 128) (hal : att.length ≤ 120) {c s : Nat} (hc : 7 + 11 * (aE (p_att xs (p + 1) att) + 1 - p) ≤ c) (hs : 640 + 872 * (aE (p_att xs (p + 1) att) + 1 - p) ≤ s) {K : Int32 → hm_T → hz_T → Prop}
    (kok : ∀ q nv, p_att xs (p + 1) att = .inr (q, nv) → ∀ (h1 : hm_T) (z1 : hz_T) (sv1 ad1 o : Nat) (ws1 : List Nat), h1 y = some (r6c tt q (-1) rd sc (if tm = 0 ∧ nv.2.length ≤ 20 then 0 else 1)) → jb dA h1 sc sv1 ws1 → (sv1 = sv ∨ h sv1 = none) → ja dA h1 aq ad1 (aas ++ [o]) → ((ad1 = ad ∧ aas ≠ []) ∨ h ad1 = none ∨ ad1 = sv) → cp_at1 h1 z1 o nv → (h o = none ∨ o = sv) → hm_mo h h1 (fun b => b = y ∨ b = sc ∨ b = sv ∨ b = aq ∨ (b = ad ∧ aas ≠ [])) → hz_mo z z1 → K 1 h1 z1)
    (kerr : ∀ e, p_att xs (p + 1) att = .inl e → rErr dA h z (fun b => b = y ∨ b = sc ∨ b = sv ∨ b = aq ∨ (b = ad ∧ aas ≠ [])) y tt rd sc sv e (K 0)) : w_MarkupReader_readAttribute dA y (some x) c s K h z := by
  have t0 := t
  obtain ⟨⟨u, hu⟩, hl, hcx⟩ := t
  obtain ⟨mb, nb, fb, b1, b2, br⟩ := id jS
  have ysc : sc ≠ y := hm_ne b1 R rfl
  have ysv : sv ≠ y := hm_ne b2 R rfl
  have xy : x ≠ y := hm_ne c1 R rfl
  obtain ⟨mo, j1, j2⟩ := id j
  have aqy : aq ≠ y := hm_ne j1 R rfl
  have ady : aas ≠ [] → ad ≠ y := fun e => by
    rcases j2 with ⟨e2, _⟩ | ⟨_, n, f, c3, _⟩
    · exact absurd e2 e
    · exact hm_ne c3 R rfl
  have hjo : ∀ i, i < aas.length → jo h (aas.getD i 0) := fun i hi => by
    obtain ⟨p1, p2, u1, u2, a1, _⟩ := ra i (by omega)
    exact ⟨9, _, a1, Or.inr (Or.inl rfl)⟩
  have atY : ∀ i, i < att.length → aas.getD i 0 ≠ y := fun i hi => by
    obtain ⟨p1, p2, u1, u2, a1, _⟩ := ra i hi
    exact hm_ne a1 R rfl
  have hle := a_let_le (xs := xs) (p := p + 1) (by omega)
  have hle6 := (a_let_small (xs := xs) (p := p + 1)).1
  obtain ⟨hB1, hB2⟩ := rl_attr_room0 hc hs
  unfold w_MarkupReader_readAttribute w_MarkupReader_readAttribute_61 w_MarkupReader_readAttribute_87
  refine cg_I_of R rfl (cg_p_of R (show 1 < 6 by decide) ?_)
  rw [nI_1]
  refine cg_I_of hm_s rfl (cg_c_of hm_s (cg_rm_of (c1 := 2) (s1 := 146) hB1 hB2 (rl_name hm_s t0 (by omega) (Nat.le_refl _) (Nat.le_refl _) (fun h1 z1 tn R1 M1 Z1 ⟨un, hn⟩ => ?_))))
  have M01 : hm_mo h h1 (fun b => b = y) := (hm_mo.u (Y := fun b => b = y) rfl).trans M1
  have Yy : ∀ {h2 : hm_T}, hm_mo h h2 (fun b => b = y) → hm_mo h h2 (fun b => b = y ∨ b = sc ∨ b = sv ∨ b = aq ∨ (b = ad ∧ aas ≠ [])) := fun m => m.weak (fun b w => Or.inl w)
  have jS1 := jS.mo M01 ysc ysv
  have c11 := M01 _ _ c1 xy
  have nmc : ∀ c ∈ (xs.drop (p + 1)).take (a_let xs (p + 1)), c < 128 := fun c hc => hcx c (List.mem_of_mem_drop (List.mem_of_mem_take hc))
  by_cases q0 : a_let xs (p + 1) = 0
  · rw [if_pos q0] at R1
    exact cg_c_of R1 (rl_failed1 R1 (by omega) (if_no (by decide) (kerr (p + 1) (if_pos (Or.inl q0)) h1 z1 sv _ _ ws R1 jS1 (Or.inl rfl) (Yy M01) Z1)))
  rw [if_neg q0] at R1
  refine cg_c_of R1 (rl_failed0 R1 (if_yes rfl (cg_d_of (cg_c_of c11 ?_))))
  refine rl_named c11 c2 (j.mo M01 aqy ady) el (fun i hi => (ra i hi).mo M01 Z1 (atY i hi)) hn (by rw [List.length_take]; omega) nmc ha (by omega) (fun nn => ?_) (fun i hi e1 _ => ?_)
  rotate_left
  · refine if_no (by simp) (cg_c_of R1 (rl_failAt R1 (fun h2 R2 M2 => ⟨Or.inl rfl, kerr (p + 1) (if_pos (Or.inr ⟨att.getD i ([], []), ?_, e1⟩)) h2 z1 sv _ _ ws R2 (jS1.mo M2 ysc ysv) (Or.inl rfl) (Yy (M01.trans M2)) Z1⟩)))
    rw [List.getD_eq_getElem?_getD, List.getElem?_eq_getElem hi]
    exact List.getElem_mem hi
  have ep : p_att xs (p + 1) att = if xs.getD (p + 1 + a_let xs (p + 1)) 0 ≠ 61 then .inl (p + 1 + a_let xs (p + 1)) else if xs.getD (p + 1 + a_let xs (p + 1) + 1) 0 ≠ 34 then .inl (p + 1 + a_let xs (p + 1) + 1) else match p_val xs 34 200 (p + 1 + a_let xs (p + 1) + 2) [] with
      | .inl e => .inl e
      | .inr (q, v) => if xs.getD q 0 = 34 then .inr (q + 1, ((xs.drop (p + 1)).take (a_let xs (p + 1)), v)) else .inl q := if_neg (fun w => w.elim q0 (fun ⟨q, h1, h2⟩ => nn q h1 h2))
  refine if_yes rfl (cg_c_of R1 (rl_take (c := 61) R1 (t0.mo Z1) (by omega) (by decide) (fun g1 h2 R2 M2 => ?_) (fun g1 h2 R2 M2 => ?_)))
  rotate_left
  · exact if_yes rfl (kerr _ (by rw [ep, if_pos g1]) h2 z1 sv _ _ ws R2 (jS1.mo M2 ysc ysv) (Or.inl rfl) (Yy (M01.trans M2)) Z1)
  have l1 := getD_pos g1 (by decide)
  refine if_no (by decide) (cg_c_of R2 (rl_take (c := 34) R2 (t0.mo Z1) (by omega) (by decide) (fun g2 h3 R3 M3 => ?_) (fun g2 h3 R3 M3 => ?_)))
  rotate_left
  · exact if_yes rfl (kerr _ (by rw [ep, if_neg (fun w => w g1), if_pos g2]) h3 z1 sv _ _ ws R3 ((jS1.mo M2 ysc ysv).mo M3 ysc ysv) (Or.inl rfl) (Yy ((M01.trans M2).trans M3)) Z1)
  have l2 := getD_pos g2 (by decide)
  rw [if_neg (fun w => w g1), if_neg (fun w => w g2)] at ep
  have hVL : vE (p_val xs 34 200 (p + 1 + a_let xs (p + 1) + 1 + 1) []) ≤ aE (p_att xs (p + 1) att) := by
    rw [ep]
    show vE (p_val xs 34 200 (p + 1 + a_let xs (p + 1) + 2) []) ≤ _
    cases p_val xs 34 200 (p + 1 + a_let xs (p + 1) + 2) [] with
    | inl e => exact Nat.le_refl _
    | inr qv =>
      obtain ⟨q, v⟩ := qv
      simp only []
      by_cases w : xs.getD q 0 = 34
      · rw [if_pos w]; exact Nat.le_succ _
      · rw [if_neg w]; exact Nat.le_refl _
  obtain ⟨hA1, hA2, hA3, hA4, hA5, hA6⟩ := rl_attr_room (a := a_let xs (p + 1)) hVL hc hs
  have M03 : hm_mo h h3 (fun b => b = y) := (M01.trans M2).trans M3
  have jS3 := jS.mo M03 ysc ysv
  have svc3 : ∀ {sv1 : Nat}, (sv1 = sv ∨ h3 sv1 = none) → (sv1 = sv ∨ h sv1 = none) := fun w => sv_chain M03 (fun b w => Or.inr (by rw [w, R3]; simp)) (Or.inl rfl) w
  have YYv : ∀ {h4 : hm_T}, hm_mo h3 h4 (fun b => b = y ∨ b = sc ∨ b = sv) → hm_mo h h4 (fun b => b = y ∨ b = sc ∨ b = sv ∨ b = aq ∨ (b = ad ∧ aas ≠ [])) := fun m => (Yy M03).trans (m.weak (fun b w => w.elim Or.inl (fun w => w.elim (fun w => Or.inr (Or.inl w)) (fun w => Or.inr (Or.inr (Or.inl w))))))
  refine if_no (by decide) (cg_c_of R3 (cg_rm_of hA1 hA2 (rl_value (stop := 34) (by decide) ht (by omega) (Nat.le_refl _) (Nat.le_refl _) R3 (t0.mo Z1) jS3 (fun q v e h4 z4 sv4 t4 R4 jS4 hu4 M4 Z4 ⟨u4, k4⟩ => ?_) (fun e8 e h4 z4 sv4 t4 p4 tm4 ws4 R4 jS4 hu4 M4 Z4 k4 => ?_))))
  rotate_left
  · refine cg_c_of R4 (rl_failed1 R4 ?_ (if_no (by decide) (kerr e8 (by rw [ep]; rw [show p + 1 + a_let xs (p + 1) + 2 = p + 1 + a_let xs (p + 1) + 1 + 1 by omega, e]) h4 z4 sv4 _ _ _ R4 jS4 (svc3 hu4) (YYv M4) (Z1.trans Z4))))
    have pe : ∀ (f p9 : Nat) (acc : List Nat) (e9 : Nat), p_val xs 34 f p9 acc = .inl e9 → e9 < xs.length := by
      intro f
      induction f with
      | zero => intro p9 acc e9 w; cases w
      | succ f ih =>
        intro p9 acc e9 w
        unfold p_val at w
        by_cases a0 : xs.length ≤ p9
        · rw [if_pos a0] at w; cases w
        rw [if_neg a0] at w
        by_cases a1 : xs.getD p9 0 = 60 ∨ xs.getD p9 0 = 34
        · rw [if_pos a1] at w; cases w
        rw [if_neg a1] at w
        by_cases a2 : xs.getD p9 0 = 38
        · rw [if_pos a2] at w
          cases ea : a_ent xs p9 with
          | none => rw [ea] at w; cases w; omega
          | some x9 => obtain ⟨c9, r9⟩ := x9; rw [ea] at w; exact ih _ _ _ w
        · rw [if_neg a2] at w; exact ih _ _ _ w
    have := pe _ _ _ _ e
    omega
  have hq := p_val_le _ _ _ (by omega) e
  have ep2 : p_att xs (p + 1) att = if xs.getD q 0 = 34 then .inr (q + 1, ((xs.drop (p + 1)).take (a_let xs (p + 1)), v)) else .inl q := by rw [ep, show p + 1 + a_let xs (p + 1) + 2 = p + 1 + a_let xs (p + 1) + 1 + 1 by omega, e]
  obtain ⟨mb4, nb4, fb4, d1, d2, dr⟩ := id jS4
  have ysv4 : sv4 ≠ y := hm_ne d2 R4 rfl
  refine cg_c_of R4 (rl_failed0 R4 (if_yes rfl (cg_c_of R4 (rl_take (c := 34) R4 ((t0.mo Z1).mo Z4) (by omega) (by decide) (fun g3 h5 R5 M5 => ?_) (fun g3 h5 R5 M5 => ?_)))))
  rotate_left
  · exact if_yes rfl (kerr q (by rw [ep2, if_neg g3]) h5 z4 sv4 _ _ _ R5 (jS4.mo M5 ysc ysv4) (svc3 hu4) ((YYv M4).trans (M5.weak (fun b w => Or.inl w))) (Z1.trans Z4))
  -- the attribute is made
  have nY : ∀ b e, h b = some e → b ≠ y → b ≠ sc → b ≠ sv → h5 b = some e := fun b e hb n1 n2 n3 => M5 b e (M4 b e (M03 b e hb n1) (fun w => w.elim n1 (fun w => w.elim n2 n3))) n1
  have c15 := nY _ _ c1 xy (hm_ne c1 b1 rfl) (hm_ne c1 b2 rfl)
  have M05 : hm_mo h h5 (fun b => b = y ∨ b = sc ∨ b = sv) := fun b e hb n => nY b e hb (fun w => n (Or.inl w)) (fun w => n (Or.inr (Or.inl w))) (fun w => n (Or.inr (Or.inr w)))
  have aqn : ¬ (aq = y ∨ aq = sc ∨ aq = sv) := fun w => w.elim aqy (fun w => w.elim (hm_ne j1 b1 rfl) (hm_ne j1 b2 rfl))
  have adn : aas ≠ [] → ¬ (ad = y ∨ ad = sc ∨ ad = sv) := fun e9 => by
    rcases j2 with ⟨e2, _⟩ | ⟨_, n, f, c3, _⟩
    · exact absurd e2 e9
    · exact fun w => w.elim (hm_ne c3 R rfl) (fun w => w.elim (hm_ne c3 b1 rfl) (hm_ne c3 b2 rfl))
  have j5 := j.mo M05 aqn adn
  have hjo5 : ∀ i, i < aas.length → jo h5 (aas.getD i 0) := fun i hi => by
    obtain ⟨p1, p2, u1, u2, a1, _⟩ := ra i (by omega)
    exact ⟨9, _, M05 _ _ a1 (fun w => w.elim (hm_ne a1 R rfl) (fun w => w.elim (hm_ne a1 b1 rfl) (hm_ne a1 b2 rfl))), Or.inr (Or.inl rfl)⟩
  refine if_no (by decide) (cg_d_of (cg_R_ref c15 c2 (cg_new_of hA3 hA4 (fun o ho => cg_c_of hm_s (cg_rm_0 ?_)))))
  have M6 : ∀ e, hm_mo h5 (hm_u h5 o e) (fun _ => False) := fun e b f hb _ => by rw [hm_n (hm_nn hb ho)]; exact hb
  have ho0 : h o = none ∨ o = sv := by
    cases e9 : h o with
    | none => exact Or.inl rfl
    | some f =>
      by_cases w3 : o = sv
      · exact Or.inr w3
      have no : ∀ b g, h5 b = some g → o ≠ b := fun b g hb w => by rw [w, hb] at ho; cases ho
      exfalso
      rw [nY o f e9 (no _ _ R5) (no _ _ (M5 _ _ d1 ysc)) w3] at ho
      cases ho
  unfold w_Attribute_init
  refine cg_c_of hm_s (cg_rm_0 ?_)
  unfold w_Record_init9
  refine cg_p_of hm_s (show 0 < 2 by decide) (cg_p_of hm_s (show 1 < 2 by decide) ?_)
  rw [hm_uu, hm_uu]
  obtain ⟨mo5, j51, j52⟩ := id j5
  have jo6 : ∀ f, jo (hm_u h5 o (.inr (9, f))) o := fun f => ⟨9, f, hm_s, Or.inr (Or.inl rfl)⟩
  refine cg_d_of (cg_c_of (M6 _ _ _ j51 id) (cg_rm_of (c1 := 1) (s1 := 200) hA5 hA6 ?_))
  refine ja_add (j5.mo (M6 _) id (fun _ => id)) (by omega) (jo6 _) (fun i hi => (hjo5 i hi).mo (M6 _) id) (Nat.le_refl _) (Nat.le_refl _) (fun h7 ad1 j7 hd7 M7 => ?_)
  have oaq : o ≠ aq := fun w => by rw [w, j51] at ho; cases ho
  have oad : ¬ (o = ad ∧ aas ≠ []) := fun ⟨w, e9⟩ => by
    rcases j52 with ⟨e2, _⟩ | ⟨_, n, f, c3, _⟩
    · exact e9 e2
    · rw [w, c3] at ho; cases ho
  have nQ : ∀ b g, h5 b = some g → b ≠ aq → ¬ (b = ad ∧ aas ≠ []) → h7 b = some g := fun b g hb n1 n2 => M7 b g (M6 _ b g hb id) (fun w => w.elim n1 n2)
  have ady5 : aas ≠ [] → ad ≠ y ∧ ad ≠ sc ∧ ad ≠ sv4 := fun e9 => by
    rcases j52 with ⟨e2, _⟩ | ⟨_, n, f, c3, _⟩
    · exact absurd e2 e9
    · exact ⟨hm_ne c3 R5 rfl, hm_ne c3 (M5 _ _ d1 ysc) rfl, hm_ne c3 (M5 _ _ d2 ysv4) rfl⟩
  have jS7 : jb dA h7 sc sv4 v := ⟨mb4, nb4, fb4, nQ _ _ (M5 _ _ d1 ysc) (hm_ne (M5 _ _ d1 ysc) j51 rfl) (fun w => (ady5 w.2).2.1 w.1.symm), nQ _ _ (M5 _ _ d2 ysv4) (hm_ne (M5 _ _ d2 ysv4) j51 rfl) (fun w => (ady5 w.2).2.2 w.1.symm), dr⟩
  refine kok (q + 1) ((xs.drop (p + 1)).take (a_let xs (p + 1)), v) (by rw [ep2, if_pos g3]) h7 z4 sv4 ad1 o v ?_ jS7 (svc3 hu4) j7 ?_ ⟨tn, t4, un, u4, M7 _ _ hm_s (fun w => w.elim oaq oad), Z4 _ _ hn, k4⟩ ho0 (fun b g hb n => ?_) (Z1.trans Z4)
  · exact nQ _ _ R5 (Ne.symm (hm_ne j51 R5 rfl)) (fun w => (ady5 w.2).1 w.1.symm)
  · rcases hd7 with w | w
    · exact Or.inl w
    · refine Or.inr ?_
      cases e9 : h ad1 with
      | none => exact Or.inl rfl
      | some f =>
        by_cases w3 : ad1 = sv
        · exact Or.inr w3
        have no : ∀ b g, (hm_u h5 o (.inr (9, [.ref tn, .ref t4])) : hm_T) b = some g → ad1 ≠ b := fun b g hb w2 => by rw [w2] at w; exact absurd (hb.symm.trans w) (by simp)
        exfalso
        have n1 := no _ _ (M6 _ _ _ R5 id)
        have n2 := no _ _ (M6 _ _ _ (M5 _ _ d1 ysc) id)
        have := M6 (.inr (9, [.ref tn, .ref t4])) _ _ (nY ad1 f e9 n1 n2 w3) id
        exact absurd (this.symm.trans w) (by simp)
  · have n1 : b ≠ y := fun w => n (Or.inl w)
    have n2 : b ≠ sc := fun w => n (Or.inr (Or.inl w))
    have n3 : b ≠ sv := fun w => n (Or.inr (Or.inr (Or.inl w)))
    exact nQ b g (nY b g hb n1 n2 n3) (fun w => n (Or.inr (Or.inr (Or.inr (Or.inl w))))) (fun w => n (Or.inr (Or.inr (Or.inr (Or.inr w)))))
end PL6
