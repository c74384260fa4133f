-- reading: names and entities
theorem a_let_small {xs : List Nat} {p : Nat} : a_let xs p ≤ 6 ∧ (∀ j, j < a_let xs p → a_small (xs.getD (p + j) 0) = true) ∧ (a_let xs p < 6 → a_small (xs.getD (p + a_let xs p) 0) = false) := by
  unfold a_let
  have key : ∀ (m k : Nat), (∀ j, k ≤ j → j < k + m → (∀ i, mp_fst (fun k => !a_small (xs.getD (p + k) 0)) m k = some i → j < i) → a_small (xs.getD (p + j) 0) = true) := by
    intro m
    induction m with
    | zero => intro k j h1 h2; omega
    | succ m ih =>
      intro k j h1 h2 h3
      cases q : a_small (xs.getD (p + k) 0) with
      | true =>
        by_cases e : j = k
        · rw [e]; exact q
        · refine ih (k + 1) j (by omega) (by omega) (fun i hi => h3 i ?_)
          simp only [mp_fst, q, Bool.not_true, Bool.false_eq_true, if_false]
          exact hi
      | false =>
        have := h3 k (by simp only [mp_fst, q, Bool.not_false, if_true])
        omega
  cases e : mp_fst (fun k => !a_small (xs.getD (p + k) 0)) 6 0 with
  | none => exact ⟨Nat.le_refl _, fun j hj => key 6 0 j (by omega) (by omega) (fun i hi => by rw [e] at hi; cases hi), fun w => absurd w (Nat.lt_irrefl _)⟩
  | some n =>
    have h := mp_fst_some _ _ e
    refine ⟨by simp only []; omega, fun j hj => key 6 0 j (by omega) (by simp only [] at hj; omega) (fun i hi => by rw [e] at hi; cases hi; exact hj), fun _ => ?_⟩
    have := h.2
    simpa using this
theorem a_let_le {xs : List Nat} {p : Nat} (hp : p ≤ xs.length) : p + a_let xs p ≤ xs.length := by
  obtain ⟨_, h2, _⟩ := a_let_small (xs := xs) (p := p)
  rcases Nat.lt_or_ge xs.length (p + a_let xs p) with q | q
  · have := h2 (xs.length - p) (by omega)
    rw [show p + (xs.length - p) = xs.length by omega, List.getD_eq_getElem?_getD, List.getElem?_eq_none (Nat.le_refl _)] at this
    cases this
  · exact q
/-- a word and a ; behind it stand at p -/
def a_sk (xs : List Nat) (p : Nat) (ws : List Nat) : Bool := decide (p + ws.length < xs.length ∧ xs.getD (p + ws.length) 0 = 59 ∧ (xs.drop p).take ws.length = ws)
/-- the entity at p: what it stands for, and where its ; stands -/
def a_ent (xs : List Nat) (p : Nat) : Option (Nat × Nat) := if a_sk xs p [38, 108, 116] then some (60, p + 3) else if a_sk xs p [38, 103, 116] then some (62, p + 3) else if a_sk xs p [38, 97, 109, 112] then some (38, p + 4) else if a_sk xs p [38, 113, 117, 111, 116] then some (34, p + 5) else if a_sk xs p [38, 97, 112, 111, 115] then some (39, p + 5) else none
section PL2
variable {dA : Nat → ClassId} {h : hm_T} {z : hz_T} {y tt p rd sc : Nat} {wr tm : Int32} {xs : List Nat}
theorem rl_name60 (R : h y = some (r6c tt (p + a_let xs p) wr rd sc tm)) (t : rT z tt xs) (hp : p ≤ xs.length) {c s : Nat} (hc : 2 ≤ c) (hs : 146 ≤ s) {K : Option Nat → hm_T → hz_T → Prop} (hK : ∀ (h1 : hm_T) (z1 : hz_T) (t1 : Nat), hm_mo h h1 (fun _ => False) → hz_mo z z1 → (∃ u, z1 t1 = some (u, (xs.drop p).take (a_let xs p))) → K (some t1) h1 z1) : w_TextReader_readName6_60 dA y K (nI p) c s h z := by
  obtain ⟨⟨u, hu⟩, hl, hcx⟩ := t
  have hle := a_let_le hp
  unfold w_TextReader_readName6_60
  refine cg_R_ref R rfl (cg_I_of R rfl (cg_d_of (cg_k_of hc hs ⟨u, xs, p, p + a_let xs p, hu, rfl, rfl, by omega, hle, by omega, hcx, fun h1 z1 t1 u1 k1 k2 k3 => ?_⟩)))
  rw [Nat.add_sub_cancel_left] at k1
  exact hK h1 z1 t1 (fun b e hb _ => k2 b e hb) k3 ⟨u1, k1⟩
theorem rl_name43 (R : h y = some (r6c tt (p + a_let xs p) wr rd sc tm)) (t : rT z tt xs) (hp : p ≤ xs.length) {c s : Nat} (hc : 2 ≤ c) (hs : 146 ≤ s) {K : Option Nat → hm_T → hz_T → Prop} (hK : ∀ (h1 : hm_T) (z1 : hz_T) (t1 : Nat), h1 y = some (r6c tt (p + a_let xs p) (if a_let xs p = 0 then nI p else wr) rd sc tm) → hm_mo h h1 (fun b => b = y) → hz_mo z z1 → (∃ u, z1 t1 = some (u, (xs.drop p).take (a_let xs p))) → K (some t1) h1 z1) : w_TextReader_readName6_43 dA y K (nI p) c s h z := by
  have hl := t.2.1
  have h6 := (a_let_small (xs := xs) (p := p)).1
  unfold w_TextReader_readName6_43
  refine cg_I_of R rfl ?_
  by_cases q : a_let xs p = 0
  · refine if_yes (by rw [q]; rfl) (cg_I_of R rfl (cg_c_of R (rl_failAt R (fun h1 R1 M1 => rl_name60 R1 t hp hc hs (fun h2 z2 t2 M2 Mz2 k => ?_)))))
    refine hK h2 z2 t2 ?_ (M1.trans (M2.weak (fun _ w => w.elim))) Mz2 k
    rw [M2 _ _ R1 id, if_pos q, q]
    rfl
  · refine if_no (fun w => ?_) (rl_name60 R t hp hc hs (fun h2 z2 t2 M2 Mz2 k => hK h2 z2 t2 ?_ (M2.weak (fun _ w => w.elim)) Mz2 k))
    · have := (nI_eq (by omega) (by omega)).mp w
      omega
    · rw [if_neg q]; exact M2 _ _ R id
theorem rl_nameL (t : rT z tt xs) (hp : p ≤ xs.length) {c s : Nat} (hc : 2 ≤ c) (hs : 146 ≤ s) {K : Option Nat → hm_T → hz_T → Prop} : ∀ (r fu k : Nat) (h : hm_T), k + r = 6 → r < fu → a_let xs p = (match mp_fst (fun k => !a_small (xs.getD (p + k) 0)) r k with | some j => j | none => 6) → h y = some (r6c tt (p + k) wr rd sc tm) → (∀ (h1 : hm_T) (z1 : hz_T) (t1 : Nat), h1 y = some (r6c tt (p + a_let xs p) (if a_let xs p = 0 then nI p else wr) rd sc tm) → hm_mo h h1 (fun b => b = y) → hz_mo z z1 → (∃ u, z1 t1 = some (u, (xs.drop p).take (a_let xs p))) → K (some t1) h1 z1) → w_TextReader_readName6_5 dA y K fu (nI p) c s h z := by
  have hl := t.2.1
  intro r
  induction r with
  | zero =>
    intro fu k h hk hr ha R hK
    obtain ⟨fu, rfl⟩ : ∃ f, fu = f + 1 := ⟨fu - 1, by omega⟩
    obtain rfl : k = 6 := by omega
    have ha6 : a_let xs p = 6 := ha
    unfold w_TextReader_readName6_5
    refine cg_I_of R rfl (if_yes ?_ (rl_name43 (by rw [ha6]; exact R) t hp hc hs hK))
    rw [nI_sub (by omega), Nat.add_sub_cancel_left]
    exact nI_le (a := 6) (Nat.le_refl _) (by decide)
  | succ r ih =>
    intro fu k h hk hr ha R hK
    obtain ⟨fu, rfl⟩ : ∃ f, fu = f + 1 := ⟨fu - 1, by omega⟩
    have hcl := getD_lt t.2.2 (p + k)
    unfold w_TextReader_readName6_5
    refine cg_I_of R rfl (if_no ?_ (cg_I_of R rfl (cg_c_of R (rl_seen R t (by omega) (cp_small hcl ?_)))))
    · rw [nI_sub (by omega), Nat.add_sub_cancel_left]
      exact nI_ge (b := 6) (by omega) (by decide)
    · cases q : a_small (xs.getD (p + k) 0) with
      | false =>
        rw [if_neg (show ¬ false = true by decide)]
        simp only [mp_fst, q, Bool.not_false, if_true] at ha
        exact if_yes rfl (rl_name43 (by rw [ha]; exact R) t hp hc hs hK)
      | true =>
        rw [if_pos (show true = true from rfl)]
        simp only [mp_fst, q, Bool.not_true, Bool.false_eq_true, if_false] at ha
        refine if_no (by decide) (cg_I_of R rfl (cg_p_of R (show 1 < 6 by decide) ?_))
        rw [nI_1]
        exact ih fu (k + 1) _ (by omega) (by omega) ha hm_s (fun h1 z1 t1 k1 k2 k3 k4 => hK h1 z1 t1 k1 (hm_mo.trans (Y := fun b => b = y) (hm_mo.u rfl) k2) k3 k4)
theorem rl_name (R : h y = some (r6c tt p wr rd sc tm)) (t : rT z tt xs) (hp : p ≤ xs.length) {c s : Nat} (hc : 2 ≤ c) (hs : 146 ≤ s) {K : Option Nat → hm_T → hz_T → Prop} (hK : ∀ (h1 : hm_T) (z1 : hz_T) (t1 : Nat), h1 y = some (r6c tt (p + a_let xs p) (if a_let xs p = 0 then nI p else wr) rd sc tm) → hm_mo h h1 (fun b => b = y) → hz_mo z z1 → (∃ u, z1 t1 = some (u, (xs.drop p).take (a_let xs p))) → K (some t1) h1 z1) : w_TextReader_readName6 dA y c s K h z := by
  unfold w_TextReader_readName6
  exact cg_I_of R rfl (rl_nameL t hp hc hs 6 mF 0 h (by omega) (by unfold mF; omega) rfl R hK)
theorem rl_skip (R : h y = some (r6c tt p wr rd sc tm)) (t : rT z tt xs) (hp : p < 2 ^ 29) {tw uw : Nat} {ws : List Nat} (hw : z tw = some (uw, ws)) (hwl : ws.length < 100) (hwc : ∀ c ∈ ws, c < 128) {c s : Nat} (hc : 2 ≤ c) (hs : 146 ≤ s) {K : Int32 → hm_T → hz_T → Prop} (k1 : a_sk xs p ws = true → ∀ (h1 : hm_T) (z1 : hz_T), h1 y = some (r6c tt (p + ws.length) wr rd sc tm) → hm_mo h h1 (fun b => b = y) → hz_mo z z1 → K 1 h1 z1) (k0 : a_sk xs p ws = false → ∀ (h1 : hm_T) (z1 : hz_T), hm_mo h h1 (fun _ => False) → hz_mo z z1 → K 0 h1 z1) : w_MarkupReader_skip dA y (some tw) c s K h z := by
  obtain ⟨⟨u, hu⟩, hl, hcx⟩ := t
  unfold w_MarkupReader_skip w_MarkupReader_skip_34
  refine cg_I_of R rfl (cg_d_of ⟨uw, ws, hw, cg_R_ref R rfl (cg_d_of ⟨u, xs, hu, ?_⟩)⟩)
  rw [nI_add]
  have hcl := getD_lt hcx (p + ws.length)
  by_cases q1 : xs.length ≤ p + ws.length
  · exact if_yes (nI_le q1 (by omega)) (k0 (decide_eq_false (fun w => by omega)) h z hm_mo.refl hz_mo.refl)
  refine if_no (nI_ge (by omega) (by omega)) (cg_R_ref R rfl (cg_d_of ⟨u, xs, p + ws.length, hu, rfl, by omega, by omega, hcx, ?_⟩))
  by_cases q2 : xs.getD (p + ws.length) 0 = 59
  · refine if_yes (by rw [q2]; rfl) (cg_R_ref R rfl (cg_I_of R rfl (cg_d_of (cg_k_of hc hs ⟨u, xs, p, p + ws.length, hu, rfl, rfl, by omega, by omega, by omega, hcx, fun h1 z1 t1 u1 e1 e2 e3 => ?_⟩))))
    rw [Nat.add_sub_cancel_left] at e1
    have hm : ∀ c ∈ (xs.drop p).take ws.length, c < 128 := fun c hc => hcx c (List.mem_of_mem_drop (List.mem_of_mem_take hc))
    refine cg_d_of (cg_d_of ⟨u1, _, uw, ws, e1, e3 _ _ hw, by rw [List.length_take]; omega, by omega, hm, hwc, ?_⟩)
    by_cases q3 : (xs.drop p).take ws.length = ws
    · rw [if_pos q3]
      refine if_no (by decide) (cg_p_of (e2 _ _ R) (show 1 < 6 by decide) ?_)
      exact k1 (decide_eq_true ⟨by omega, q2, q3⟩) _ z1 hm_s ((show hm_mo h h1 (fun b => b = y) from fun b e hb _ => e2 b e hb).trans (hm_mo.u rfl)) e3
    · rw [if_neg q3]
      exact if_yes rfl (k0 (decide_eq_false (fun w => q3 w.2.2)) h1 z1 (fun b e hb _ => e2 b e hb) e3)
  · exact if_no (fun w => q2 ((nI_eq (b := 59) (by omega) (by decide)).mp w)) (k0 (decide_eq_false (fun w => q2 w.2.1)) h z hm_mo.refl hz_mo.refl)
theorem rl_entity (R : h y = some (r6c tt p wr rd sc tm)) (t : rT z tt xs) (hp : p < 2 ^ 29) {c s : Nat} (hc : 10 ≤ c) (hs : 730 ≤ s) {K : Int32 → hm_T → hz_T → Prop} (k1 : ∀ ch q, a_ent xs p = some (ch, q) → ∀ (h1 : hm_T) (z1 : hz_T), h1 y = some (r6c tt q wr rd sc tm) → hm_mo h h1 (fun b => b = y) → hz_mo z z1 → K (nI ch) h1 z1) (k0 : a_ent xs p = none → ∀ (h1 : hm_T) (z1 : hz_T), h1 y = some (r6c tt p (nI p) rd sc tm) → hm_mo h h1 (fun b => b = y) → hz_mo z z1 → K 0 h1 z1) : w_MarkupReader_readEntity dA y c s K h z := by
  unfold a_ent at k1 k0
  have ex : ∀ {h h1 : hm_T}, hm_mo h h1 (fun _ => False) → hm_mo h h1 (fun b => b = y) := fun m => m.weak (fun _ w => w.elim)
  unfold w_MarkupReader_readEntity
  refine fun a1 u1 l1 => cg_c_of R (cg_rm_of (c1 := 2) (s1 := 146) (by omega) (by omega) (rl_skip R t hp l1 (by decide) (by decide) (by omega) (by omega) (fun q h1 z1 R1 M1 Z1 => ?_) (fun q h1 z1 M1 Z1 => ?_)))
  · exact if_no (by decide) (k1 60 (p + 3) (by rw [q]; rfl) h1 z1 R1 M1 Z1)
  have R1 := M1 _ _ R id
  refine if_yes rfl (fun a2 u2 l2 => cg_c_of R1 (cg_rm_of (c1 := 2) (s1 := 146) (by omega) (by omega) (rl_skip R1 (t.mo Z1) hp l2 (by decide) (by decide) (by omega) (by omega) (fun q2 h2 z2 R2 M2 Z2 => ?_) (fun q2 h2 z2 M2 Z2 => ?_))))
  · exact if_no (by decide) (k1 62 (p + 3) (by rw [q, q2]; rfl) h2 z2 R2 ((ex M1).trans M2) (Z1.trans Z2))
  have R2 := M2 _ _ R1 id
  refine if_yes rfl (fun a3 u3 l3 => cg_c_of R2 (cg_rm_of (c1 := 2) (s1 := 146) (by omega) (by omega) (rl_skip R2 (t.mo (Z1.trans Z2)) hp l3 (by decide) (by decide) (by omega) (by omega) (fun q3 h3 z3 R3 M3 Z3 => ?_) (fun q3 h3 z3 M3 Z3 => ?_))))
  · exact if_no (by decide) (k1 38 (p + 4) (by rw [q, q2, q3]; rfl) h3 z3 R3 (((ex M1).trans (ex M2)).trans M3) ((Z1.trans Z2).trans Z3))
  have R3 := M3 _ _ R2 id
  refine if_yes rfl (fun a4 u4 l4 => cg_c_of R3 (cg_rm_of (c1 := 2) (s1 := 146) (by omega) (by omega) (rl_skip R3 (t.mo ((Z1.trans Z2).trans Z3)) hp l4 (by decide) (by decide) (by omega) (by omega) (fun q4 h4 z4 R4 M4 Z4 => ?_) (fun q4 h4 z4 M4 Z4 => ?_))))
  · exact if_no (by decide) (k1 34 (p + 5) (by rw [q, q2, q3, q4]; rfl) h4 z4 R4 ((((ex M1).trans (ex M2)).trans (ex M3)).trans M4) (((Z1.trans Z2).trans Z3).trans Z4))
  have R4 := M4 _ _ R3 id
  refine if_yes rfl (fun a5 u5 l5 => cg_c_of R4 (cg_rm_of (c1 := 2) (s1 := 146) (by omega) (by omega) (rl_skip R4 (t.mo (((Z1.trans Z2).trans Z3).trans Z4)) hp l5 (by decide) (by decide) (by omega) (by omega) (fun q5 h5 z5 R5 M5 Z5 => ?_) (fun q5 h5 z5 M5 Z5 => ?_))))
  · exact if_no (by decide) (k1 39 (p + 5) (by rw [q, q2, q3, q4, q5]; rfl) h5 z5 R5 (((((ex M1).trans (ex M2)).trans (ex M3)).trans (ex M4)).trans M5) ((((Z1.trans Z2).trans Z3).trans Z4).trans Z5))
  have R5 := M5 _ _ R4 id
  exact if_yes rfl (cg_I_of R5 rfl (cg_c_of R5 (rl_failAt R5 (fun h6 R6 M6 => k0 (by rw [q, q2, q3, q4, q5]; rfl) h6 z5 R6 ((((((ex M1).trans (ex M2)).trans (ex M3)).trans (ex M4)).trans (ex M5)).trans M6) ((((Z1.trans Z2).trans Z3).trans Z4).trans Z5)))))
end PL2
