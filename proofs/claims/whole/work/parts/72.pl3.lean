-- reading: values
/-- the value from p on, up to a < or to stop; or the place of its first error -/
def p_val (xs : List Nat) (stop : Nat) : Nat → Nat → List Nat → Nat ⊕ (Nat × List Nat)
  | 0, p, acc => .inr (p, acc)
  | f + 1, p, acc => if xs.length ≤ p then .inr (p, acc) else if xs.getD p 0 = 60 ∨ xs.getD p 0 = stop then .inr (p, acc) else if xs.getD p 0 = 38 then (match a_ent xs p with
    | none => .inl p
    | some (c, q) => p_val xs stop f (q + 1) (acc ++ [c])) else p_val xs stop f (p + 1) (acc ++ [xs.getD p 0])
/-- where a value's reading ends -/
def vE (r : Nat ⊕ (Nat × List Nat)) : Nat := match r with
  | .inl e => e
  | .inr (q, _) => q
theorem a_ent_some {xs : List Nat} {p c q : Nat} (e : a_ent xs p = some (c, q)) : p < q ∧ q < xs.length ∧ c < 128 := by
  unfold a_ent at e
  by_cases h1 : a_sk xs p [38, 108, 116] = true
  · rw [if_pos h1] at e; cases e
    have := (of_decide_eq_true h1).1
    simp at this; omega
  rw [if_neg h1] at e
  by_cases h2 : a_sk xs p [38, 103, 116] = true
  · rw [if_pos h2] at e; cases e
    have := (of_decide_eq_true h2).1
    simp at this; omega
  rw [if_neg h2] at e
  by_cases h3 : a_sk xs p [38, 97, 109, 112] = true
  · rw [if_pos h3] at e; cases e
    have := (of_decide_eq_true h3).1
    simp at this; omega
  rw [if_neg h3] at e
  by_cases h4 : a_sk xs p [38, 113, 117, 111, 116] = true
  · rw [if_pos h4] at e; cases e
    have := (of_decide_eq_true h4).1
    simp at this; omega
  rw [if_neg h4] at e
  by_cases h5 : a_sk xs p [38, 97, 112, 111, 115] = true
  · rw [if_pos h5] at e; cases e
    have := (of_decide_eq_true h5).1
    simp at this; omega
  rw [if_neg h5] at e
  cases e
/-- bytes that moved twice -/
theorem sv_chain {h h1 : hm_T} {Y : Nat → Prop} {sv sv1 sv2 : Nat} (M : hm_mo h h1 Y) (hY : ∀ b, Y b → b = sv ∨ h1 b ≠ none) (a : sv1 = sv ∨ h sv1 = none) (b : sv2 = sv1 ∨ h1 sv2 = none) : sv2 = sv ∨ h sv2 = none := by
  rcases b with b | b
  · rw [b]; exact a
  · cases e : h sv2 with
    | none => exact Or.inr rfl
    | some x =>
      by_cases q : Y sv2
      · rcases hY _ q with w | w
        · exact Or.inl w
        · exact absurd b w
      · have := M _ _ e q
        rw [b] at this
        cases this
/-- two steps that wrote the reader and the scratch -/
theorem mo_chain {h h1 h2 : hm_T} {y sc sv sv1 : Nat} (M1 : hm_mo h h1 (fun b => b = y ∨ b = sc ∨ b = sv)) (a : sv1 = sv ∨ h sv1 = none) (M2 : hm_mo h1 h2 (fun b => b = y ∨ b = sc ∨ b = sv1)) : hm_mo h h2 (fun b => b = y ∨ b = sc ∨ b = sv) := fun b e hb n => by
  refine M2 b e (M1 b e hb n) (fun w => ?_)
  rcases w with w | w | w
  · exact n (Or.inl w)
  · exact n (Or.inr (Or.inl w))
  · rcases a with q | q
    · exact n (Or.inr (Or.inr (w.trans q)))
    · rw [w, q] at hb; cases hb
theorem vE_ge {xs : List Nat} {stop : Nat} : ∀ (f p : Nat) (acc : List Nat), p ≤ vE (p_val xs stop f p acc) := by
  intro f
  induction f with
  | zero => intro p acc; exact Nat.le_refl _
  | succ f ih =>
    intro p acc
    unfold p_val
    by_cases q0 : xs.length ≤ p
    · rw [if_pos q0]; exact Nat.le_refl _
    rw [if_neg q0]
    by_cases q1 : xs.getD p 0 = 60 ∨ xs.getD p 0 = stop
    · rw [if_pos q1]; exact Nat.le_refl _
    rw [if_neg q1]
    by_cases q2 : xs.getD p 0 = 38
    · rw [if_pos q2]
      cases ea : a_ent xs p with
      | none => exact Nat.le_refl _
      | some x =>
        obtain ⟨c, r⟩ := x
        have h1 := a_ent_some ea
        have := ih (r + 1) (acc ++ [c])
        simp only []
        omega
    · rw [if_neg q2]
      have := ih (p + 1) (acc ++ [xs.getD p 0])
      omega
section PL3
variable {dA : Nat → ClassId} {y tt rd sc : Nat} {xs : List Nat}
/-- the end of readValue -/
theorem rl_val106 {h : hm_T} {z : hz_T} {p sv : Nat} {wr tm : Int32} {v : List Nat} (R : h y = some (r6c tt p wr rd sc tm)) (j : jb dA h sc sv v) (ht : tm = 0 ∨ tm = 1) {c s : Nat} (hc : 2 ≤ c) (hs : 146 ≤ s) {K : Option Nat → hm_T → hz_T → Prop} (hK : ∀ (h1 : hm_T) (z1 : hz_T) (t1 : Nat), h1 y = some (r6c tt p wr rd sc (if tm = 0 ∧ v.length ≤ 20 then 0 else 1)) → jb dA h1 sc sv v → hm_mo h h1 (fun b => b = y) → hz_mo z z1 → (∃ u, z1 t1 = some (u, v)) → K (some t1) h1 z1) : w_MarkupReader_readValue_106 dA y K c s h z := by
  obtain ⟨mb, nb, fb, b1, b2, br1, br2, br3⟩ := id j
  have hlv := tx_n142 br1
  have ysc : sc ≠ y := hm_ne b1 R rfl
  have ysv : sv ≠ y := hm_ne b2 R rfl
  have fin : ∀ (w0 : Int32) (c s : Nat), 2 ≤ c → 146 ≤ s → (w0 = 0 ∨ w0 = 1) → w0 = (if tm = 0 ∧ v.length ≤ 20 then 0 else 1) → w_MarkupReader_readValue_131 dA y K w0 c s h z := by
    intro w0 c s hc hs hw0 hw
    unfold w_MarkupReader_readValue_131
    refine ⟨hw0, cg_p_of R (show 5 < 6 by decide) ?_⟩
    have M : ∀ e, hm_mo h (hm_u h y e) (fun b => b = y) := fun e => hm_mo.u rfl
    have j1 : ∀ e, jb dA (hm_u h y e) sc sv v := fun e => j.mo (M e) ysc ysv
    refine cg_R_ref hm_s rfl (cg_d_of (cg_c_of (M _ _ _ b1 ysc) (cg_k_of hc hs ⟨sv, v, j1 _, fun h1 z1 t1 u1 e1 e2 e3 => ?_⟩)))
    refine hK h1 z1 t1 ?_ ((j1 _).mo (Y := fun _ => False) (fun b e hb _ => e2 b e hb) id id) ((M _).trans (fun b e hb _ => e2 b e hb)) e3 ⟨u1, e1⟩
    rw [← hw]
    exact e2 _ _ hm_s
  unfold w_MarkupReader_readValue_106 w_MarkupReader_readValue_126
  refine cg_I_of R rfl ?_
  by_cases q : tm = 0
  · refine if_yes q (cg_R_ref R rfl (cg_d_of (cg_c_of b1 (cg_rm_0 (cp_blen j ?_)))))
    by_cases q2 : v.length ≤ 20
    · exact if_yes (nI_le (b := 20) q2 (by decide)) (fin 0 c s hc hs (Or.inl rfl) (by rw [if_pos ⟨q, q2⟩]))
    · exact if_no (nI_ge (a := 20) (by omega) (by omega)) (fin 1 c s hc hs (Or.inr rfl) (by rw [if_neg (fun w => q2 w.2)]))
  · exact if_no q (fin 1 c s hc hs (Or.inr rfl) (by rw [if_neg (fun w => q w.1)]))
theorem rl_valL {stop : Nat} (hst : stop < 128) {tm : Int32} (ht : tm = 0 ∨ tm = 1) {K : Option Nat → hm_T → hz_T → Prop} : ∀ (f fu p i c s sv : Nat) (acc : List Nat) (h : hm_T) (z : hz_T), xs.length < p + f → xs.length < p + fu → 0 < fu → i ≤ p → p ≤ xs.length → acc.length + (xs.length - p) ≤ 119 + 1 → 2 + 11 * (vE (p_val xs stop f p acc) + 1 - p) ≤ c → 146 + 872 * (vE (p_val xs stop f p acc) + 1 - p) ≤ s → h y = some (r6c tt p (-1) rd sc tm) → rT z tt xs → jb dA h sc sv acc →
    (∀ q v, p_val xs stop f p acc = .inr (q, v) → ∀ (h1 : hm_T) (z1 : hz_T) (sv1 t1 : Nat), h1 y = some (r6c tt q (-1) rd sc (if tm = 0 ∧ v.length ≤ 20 then 0 else 1)) → jb dA h1 sc sv1 v → (sv1 = sv ∨ h sv1 = none) → hm_mo h h1 (fun b => b = y ∨ b = sc ∨ b = sv) → hz_mo z z1 → (∃ u, z1 t1 = some (u, v)) → K (some t1) h1 z1) →
    (∀ e, p_val xs stop f p acc = .inl e → ∀ (h1 : hm_T) (z1 : hz_T) (sv1 t1 p1 : Nat) (tm1 : Int32) (ws : List Nat), h1 y = some (r6c tt p1 (nI e) rd sc tm1) → jb dA h1 sc sv1 ws → (sv1 = sv ∨ h sv1 = none) → hm_mo h h1 (fun b => b = y ∨ b = sc ∨ b = sv) → hz_mo z z1 → (∃ u, z1 t1 = some (u, ws)) → K (some t1) h1 z1) → w_MarkupReader_readValue_10 dA y K fu (nI stop) (nI i) c s h z := by
  intro f
  induction f with
  | zero => intro fu p i c s sv acc h z hf; omega
  | succ f ih =>
    intro fu p i c s sv acc h z hf hfu hf0 hi hp hacc hc hs R t j kok kerr
    obtain ⟨fu, rfl⟩ : ∃ f, fu = f + 1 := ⟨fu - 1, by omega⟩
    have t0 := t
    obtain ⟨⟨u, hu⟩, hl, hcx⟩ := t
    obtain ⟨mb, nb, fb, b1, b2, br⟩ := id j
    have ysc : sc ≠ y := hm_ne b1 R rfl
    have ysv : sv ≠ y := hm_ne b2 R rfl
    have hve := vE_ge (xs := xs) (stop := stop) (f + 1) p acc
    have fin : p_val xs stop (f + 1) p acc = .inr (p, acc) → w_MarkupReader_readValue_106 dA y K c s h z := fun e => rl_val106 R j ht (by omega) (by omega) (fun h1 z1 t1 R1 j1 M1 Z1 k => kok p acc e h1 z1 sv t1 R1 j1 (Or.inl rfl) (M1.weak (fun b w => Or.inl w)) Z1 k)
    have ep : p_val xs stop (f + 1) p acc = if xs.length ≤ p then .inr (p, acc) else if xs.getD p 0 = 60 ∨ xs.getD p 0 = stop then .inr (p, acc) else if xs.getD p 0 = 38 then (match a_ent xs p with
      | none => .inl p
      | some (c, q) => p_val xs stop f (q + 1) (acc ++ [c])) else p_val xs stop f (p + 1) (acc ++ [xs.getD p 0]) := rfl
    unfold w_MarkupReader_readValue_10
    refine cg_R_ref R rfl (cg_d_of ⟨u, xs, hu, ?_⟩)
    by_cases q0 : xs.length ≤ p
    · have e := fin (by rw [ep, if_pos q0])
      by_cases qi : xs.length ≤ i
      · exact if_yes (nI_le qi (by omega)) e
      · exact if_no (nI_ge (by omega) (by omega)) (cg_I_of R rfl (cg_R_ref R rfl (cg_d_of ⟨u, xs, hu, if_yes (nI_le q0 (by omega)) e⟩)))
    rw [if_neg q0] at ep
    refine if_no (nI_ge (by omega) (by omega)) (cg_I_of R rfl (cg_R_ref R rfl (cg_d_of ⟨u, xs, hu, if_no (nI_ge (by omega) (by omega)) (cg_I_of R rfl (cg_c_of R (rl_seen R t0 (by omega) ?_)))⟩)))
    have hcl := getD_lt hcx p
    by_cases q1 : xs.getD p 0 = 60
    · exact if_yes (by rw [q1]; rfl) (fin (by rw [ep, if_pos (Or.inl q1)]))
    refine if_no (fun w => q1 ((nI_eq (b := 60) (by omega) (by decide)).mp w)) ?_
    by_cases q2 : xs.getD p 0 = stop
    · exact if_yes (by rw [q2]) (fin (by rw [ep, if_pos (Or.inr q2)]))
    refine if_no (fun w => q2 ((nI_eq (by omega) (by omega)).mp w)) (cg_R_ref R rfl ?_)
    rw [if_neg (fun w => w.elim q1 q2)] at ep
    -- a character goes in, and on
    have go : ∀ (ch q c1 s1 : Nat) (h1 : hm_T) (z1 : hz_T), ch < 128 → p ≤ q → q < xs.length → h1 y = some (r6c tt q (-1) rd sc tm) → hm_mo h h1 (fun b => b = y) → hz_mo z z1 → 3 + 11 * (vE (p_val xs stop (f + 1) p acc) + 1 - (q + 1)) ≤ c1 → 288 + 872 * (vE (p_val xs stop (f + 1) p acc) + 1 - (q + 1)) ≤ s1 → p_val xs stop (f + 1) p acc = p_val xs stop f (q + 1) (acc ++ [ch]) → w_MarkupReader_readValue_76 dA y K (w_MarkupReader_readValue_10 dA y K fu) (nI stop) (nI i) (nI ch) (some sc) c1 s1 h1 z1 := by
      intro ch q c1 s1 h1 z1 hch hpq hq R1 M1 Z1 hc1 hs1 e9
      have j1 := j.mo M1 ysc ysv
      unfold w_MarkupReader_readValue_76
      refine cg_d_of (cg_c_of (M1 _ _ b1 ysc) (cg_k_of (by omega) (by omega) ⟨sv, acc, ch, j1, by omega, rfl, hch, fun h2 sv2 j2 hu2 M2 => ?_⟩))
      have R2 := M2 _ _ R1 (Ne.symm ysc) (Ne.symm ysv)
      refine cg_c_of R2 (rl_failed0 R2 (if_yes rfl (cg_I_of R2 rfl (cg_p_of R2 (show 1 < 6 by decide) ?_))))
      obtain ⟨mb2, nb2, fb2, d1, d2, dr⟩ := id j2
      have ysv2 : sv2 ≠ y := hm_ne d2 R2 rfl
      rw [nI_1, nI_1]
      have M3 : ∀ e, hm_mo h2 (hm_u h2 y e) (fun b => b = y) := fun e => hm_mo.u rfl
      have M12 : hm_mo h h2 (fun b => b = y ∨ b = sc ∨ b = sv) := fun b e hb n => M2 b e (M1 b e hb (fun w => n (Or.inl w))) (fun w => n (Or.inr (Or.inl w))) (fun w => n (Or.inr (Or.inr w)))
      have hu0 : sv2 = sv ∨ h sv2 = none := sv_chain M1 (fun b w => Or.inr (by rw [w, R1]; simp)) (Or.inl rfl) hu2
      have M13 : ∀ e, hm_mo h (hm_u h2 y e) (fun b => b = y ∨ b = sc ∨ b = sv) := fun e => M12.trans ((M3 e).weak (fun b w => Or.inl w))
      refine ih fu (q + 1) (i + 1) (c1 - 1) (s1 - 142) sv2 (acc ++ [ch]) _ z1 (by omega) (by omega) (by omega) (by omega) (by omega) (by rw [List.length_append]; simp; omega) (by rw [← e9]; omega) (by rw [← e9]; omega) hm_s (t0.mo Z1) (j2.mo (M3 _) ysc ysv2) ?_ ?_
      · intro q9 v e h3 z3 sv3 t3 R3 j3 hu3 M4 Z4 k
        refine kok q9 v (by rw [e9]; exact e) h3 z3 sv3 t3 R3 j3 ?_ (mo_chain (M13 _) hu0 M4) (Z1.trans Z4) k
        exact sv_chain (M13 _) (fun b w => w.elim (fun w => Or.inr (by rw [w, hm_s]; simp)) (fun w => w.elim (fun w => Or.inr (by rw [w, (M3 _) _ _ d1 ysc]; simp)) Or.inl)) hu0 hu3
      · intro e8 e h3 z3 sv3 t3 p3 tm3 ws3 R3 j3 hu3 M4 Z4 k
        refine kerr e8 (by rw [e9]; exact e) h3 z3 sv3 t3 p3 tm3 ws3 R3 j3 ?_ (mo_chain (M13 _) hu0 M4) (Z1.trans Z4) k
        exact sv_chain (M13 _) (fun b w => w.elim (fun w => Or.inr (by rw [w, hm_s]; simp)) (fun w => w.elim (fun w => Or.inr (by rw [w, (M3 _) _ _ d1 ysc]; simp)) Or.inl)) hu0 hu3
    by_cases q3 : xs.getD p 0 = 38
    · rw [if_pos q3] at ep
      refine if_yes (by rw [q3]; rfl) (cg_c_of R (cg_rm_of (c1 := 10) (s1 := 730) (by omega) (by omega) (rl_entity R t0 (by omega) (Nat.le_refl _) (Nat.le_refl _) ?_ ?_)))
      · intro ch q e h1 z1 R1 M1 Z1
        have he := a_ent_some e
        rw [e] at ep
        have ep2 : p_val xs stop (f + 1) p acc = p_val xs stop f (q + 1) (acc ++ [ch]) := ep
        have hv2 := vE_ge (xs := xs) (stop := stop) f (q + 1) (acc ++ [ch])
        rw [← ep2] at hv2
        exact go ch q (c - 10) (s - 730) h1 z1 he.2.2 (by omega) he.2.1 R1 M1 Z1 (by omega) (by omega) ep2
      · intro e h1 z1 R1 M1 Z1
        rw [e] at ep
        have j1 := j.mo M1 ysc ysv
        unfold w_MarkupReader_readValue_76
        refine cg_d_of (cg_c_of (M1 _ _ b1 ysc) (cg_k_of (by omega) (by omega) ⟨sv, acc, 0, j1, by omega, rfl, by decide, fun h2 sv2 j2 hu2 M2 => ?_⟩))
        have R2 := M2 _ _ R1 (Ne.symm ysc) (Ne.symm ysv)
        have hu0 : sv2 = sv ∨ h sv2 = none := sv_chain M1 (fun b w => Or.inr (by rw [w, R1]; simp)) (Or.inl rfl) hu2
        have M12 : hm_mo h h2 (fun b => b = y ∨ b = sc ∨ b = sv) := fun b e hb n => M2 b e (M1 b e hb (fun w => n (Or.inl w))) (fun w => n (Or.inr (Or.inl w))) (fun w => n (Or.inr (Or.inr w)))
        exact cg_c_of R2 (rl_failed1 R2 (by omega) (if_no (by decide) (rl_val106 R2 j2 ht (by omega) (by omega) (fun h3 z3 t3 R3 j3 M3 Z3 k => kerr p ep h3 z3 sv2 t3 p _ _ R3 j3 hu0 (M12.trans (M3.weak (fun b w => Or.inl w))) (Z1.trans Z3) k))))
    · rw [if_neg q3] at ep
      have hv2 := vE_ge (xs := xs) (stop := stop) f (p + 1) (acc ++ [xs.getD p 0])
      rw [← ep] at hv2
      exact if_no (fun w => q3 ((nI_eq (b := 38) (by omega) (by decide)).mp w)) (go (xs.getD p 0) p c s h z hcl (Nat.le_refl _) (by omega) R hm_mo.refl hz_mo.refl (by omega) (by omega) ep)
theorem rl_value {stop : Nat} (hst : stop < 128) {tm : Int32} (ht : tm = 0 ∨ tm = 1) {p c s sv : Nat} {ws : List Nat} {h : hm_T} {z : hz_T} (hp : p ≤ xs.length) (hc : 3 + 11 * (vE (p_val xs stop 200 p []) + 1 - p) ≤ c) (hs : 288 + 872 * (vE (p_val xs stop 200 p []) + 1 - p) ≤ s) (R : h y = some (r6c tt p (-1) rd sc tm)) (t : rT z tt xs) (j : jb dA h sc sv ws) {K : Option Nat → hm_T → hz_T → Prop}
    (kok : ∀ q v, p_val xs stop 200 p [] = .inr (q, v) → ∀ (h1 : hm_T) (z1 : hz_T) (sv1 t1 : Nat), h1 y = some (r6c tt q (-1) rd sc (if tm = 0 ∧ v.length ≤ 20 then 0 else 1)) → jb dA h1 sc sv1 v → (sv1 = sv ∨ h sv1 = none) → hm_mo h h1 (fun b => b = y ∨ b = sc ∨ b = sv) → hz_mo z z1 → (∃ u, z1 t1 = some (u, v)) → K (some t1) h1 z1)
    (kerr : ∀ e, p_val xs stop 200 p [] = .inl e → ∀ (h1 : hm_T) (z1 : hz_T) (sv1 t1 p1 : Nat) (tm1 : Int32) (ws : List Nat), h1 y = some (r6c tt p1 (nI e) rd sc tm1) → jb dA h1 sc sv1 ws → (sv1 = sv ∨ h sv1 = none) → hm_mo h h1 (fun b => b = y ∨ b = sc ∨ b = sv) → hz_mo z z1 → (∃ u, z1 t1 = some (u, ws)) → K (some t1) h1 z1) : w_MarkupReader_readValue dA y (nI stop) c s K h z := by
  obtain ⟨mb, nb, fb, b1, b2, br⟩ := id j
  have ysc : sc ≠ y := hm_ne b1 R rfl
  have hl := t.2.1
  unfold w_MarkupReader_readValue
  refine cg_R_ref R rfl (cg_d_of (cg_c_of b1 (cg_k_of (by omega) (by omega) ⟨sv, ws, j, rfl, fun h1 j1 M1 => ?_⟩)))
  have R1 := M1 _ _ R (Ne.symm ysc)
  have M1' : hm_mo h h1 (fun b => b = y ∨ b = sc ∨ b = sv) := fun b e hb n => M1 b e hb (fun w => n (Or.inr (Or.inl w)))
  obtain ⟨mb1, nb1, fb1, d1, d2, dr⟩ := id j1
  have hYs : ∀ b, (b = y ∨ b = sc ∨ b = sv) → b = sv ∨ h1 b ≠ none := fun b w => w.elim (fun w => Or.inr (by rw [w, R1]; simp)) (fun w => w.elim (fun w => Or.inr (by rw [w, d1]; simp)) Or.inl)
  exact rl_valL hst ht 200 mF p 0 (c - 1) (s - 142) sv [] h1 z (by omega) (by unfold mF; omega) (by unfold mF; omega) (by omega) hp (by simp; omega) (by omega) (by omega) R1 t j1 (fun q v e h2 z2 sv2 t2 R2 j2 hu2 M2 Z2 k => kok q v e h2 z2 sv2 t2 R2 j2 (sv_chain M1' hYs (Or.inl rfl) hu2) (mo_chain M1' (Or.inl rfl) M2) Z2 k) (fun e8 e h2 z2 sv2 t2 p2 tm2 ws2 R2 j2 hu2 M2 Z2 k => kerr e8 e h2 z2 sv2 t2 p2 tm2 ws2 R2 j2 (sv_chain M1' hYs (Or.inl rfl) hu2) (mo_chain M1' (Or.inl rfl) M2) Z2 k)
end PL3
