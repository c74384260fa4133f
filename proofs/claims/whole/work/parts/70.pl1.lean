-- reading: the reader's cell and its small steps
/-- a reader of markup: text, place, first error, nodes read, scratch, too much -/
def r6c (tt p : Nat) (wr : Int32) (rd sc : Nat) (tm : Int32) : va_E := .inr (6, [.ref tt, .int (nI p), .int wr, .ref rd, .ref sc, .int tm])
/-- what a reader reads -/
def rT (z : hz_T) (tt : Nat) (xs : List Nat) : Prop := (∃ u, z tt = some (u, xs)) ∧ xs.length ≤ 120 ∧ ∀ c ∈ xs, c < 128
theorem rT.mo {z z1 : hz_T} {tt : Nat} {xs : List Nat} (t : rT z tt xs) (m : hz_mo z z1) : rT z1 tt xs := by
  obtain ⟨⟨u, hu⟩, r⟩ := t
  exact ⟨⟨u, m _ _ hu⟩, r⟩
theorem cg_ch_of {c : Nat} (hc : c < 128) {K : Prop} (hK : K) : cg_ch (nI c) K := ⟨nI_char (by omega), hK⟩
section PL1
variable {dA : Nat → ClassId} {h : hm_T} {z : hz_T} {y tt p rd sc : Nat} {wr tm : Int32} {xs : List Nat}
theorem rl_seen (R : h y = some (r6c tt p wr rd sc tm)) (t : rT z tt xs) {i : Nat} (hi : i < 2 ^ 31) {K : Int32 → hm_T → hz_T → Prop} (hK : K (nI (xs.getD i 0)) h z) : w_TextReader_seen6 dA y (nI i) K h z := by
  obtain ⟨⟨u, hu⟩, hl, hc⟩ := t
  unfold w_TextReader_seen6
  refine cg_R_ref R rfl (cg_d_of ⟨u, xs, hu, ?_⟩)
  by_cases q : xs.length ≤ i
  · rw [List.getD_eq_getElem?_getD, List.getElem?_eq_none q] at hK
    exact if_yes (nI_le q hi) hK
  · exact if_no (nI_ge (by omega) (by omega)) (cg_R_ref R rfl (cg_d_of ⟨u, xs, i, hu, rfl, by omega, by omega, hc, cg_ch_of (getD_lt hc i) hK⟩))
theorem rl_failAt (R : h y = some (r6c tt p wr rd sc tm)) {i : Nat} {K : Int32 → hm_T → hz_T → Prop} (hK : ∀ h1, h1 y = some (r6c tt p (nI i) rd sc tm) → hm_mo h h1 (fun b => b = y) → K 0 h1 z) : w_TextReader_failAt6 dA y (nI i) K h z := by
  unfold w_TextReader_failAt6
  exact cg_p_of R (show 2 < 6 by decide) (hK _ hm_s (hm_mo.u rfl))
theorem rl_failed0 (R : h y = some (r6c tt p (-1) rd sc tm)) {K : Int32 → hm_T → hz_T → Prop} (hK : K 0 h z) : w_TextReader_failed6 dA y K h z := by
  unfold w_TextReader_failed6
  exact cg_I_of R rfl (if_yes rfl hK)
theorem rl_failed1 {e : Nat} (R : h y = some (r6c tt p (nI e) rd sc tm)) (he : e < 2 ^ 31) {K : Int32 → hm_T → hz_T → Prop} (hK : K 1 h z) : w_TextReader_failed6 dA y K h z := by
  unfold w_TextReader_failed6
  refine cg_I_of R rfl (if_no (fun q => ?_) hK)
  have := congrArg Int32.toInt q
  rw [nI_toInt he, show (-1 : Int32).toInt = -1 by decide] at this
  omega
theorem rl_take (R : h y = some (r6c tt p wr rd sc tm)) (t : rT z tt xs) (hp : p < 2 ^ 30) {c : Nat} (hc : c < 128) {K : Int32 → hm_T → hz_T → Prop} (h1 : xs.getD p 0 = c → ∀ h1, h1 y = some (r6c tt (p + 1) wr rd sc tm) → hm_mo h h1 (fun b => b = y) → K 1 h1 z) (h0 : xs.getD p 0 ≠ c → ∀ h1, h1 y = some (r6c tt p (nI p) rd sc tm) → hm_mo h h1 (fun b => b = y) → K 0 h1 z) : w_TextReader_take6 dA y (nI c) K h z := by
  have hl := getD_lt t.2.2 p
  unfold w_TextReader_take6
  refine cg_I_of R rfl (cg_c_of R (rl_seen R t (by omega) ?_))
  by_cases q : xs.getD p 0 = c
  · refine if_yes (by rw [q]) (cg_I_of R rfl (cg_p_of R (show 1 < 6 by decide) ?_))
    rw [nI_1]
    exact h1 q _ hm_s (hm_mo.u rfl)
  · refine if_no (fun w => q ((nI_eq (by omega) (by omega)).mp w)) (cg_I_of R rfl (cg_c_of R (rl_failAt R (fun h2 R2 M2 => ⟨Or.inl rfl, h0 q h2 R2 M2⟩))))
theorem rl_readEnd (R : h y = some (r6c tt p wr rd sc tm)) (t : rT z tt xs) (hp : p < 2 ^ 30) {K : Int32 → hm_T → hz_T → Prop} (h1 : p = xs.length → K 1 h z) (h0 : p ≠ xs.length → ∀ h1, h1 y = some (r6c tt p (nI p) rd sc tm) → hm_mo h h1 (fun b => b = y) → K 0 h1 z) : w_TextReader_readEnd6 dA y K h z := by
  obtain ⟨⟨u, hu⟩, hl, hc⟩ := t
  unfold w_TextReader_readEnd6
  refine cg_I_of R rfl (cg_R_ref R rfl (cg_d_of ⟨u, xs, hu, ?_⟩))
  by_cases q : p = xs.length
  · exact if_yes (by rw [q]) (h1 q)
  · exact if_no (fun w => q ((nI_eq (by omega) (by omega)).mp w)) (cg_I_of R rfl (cg_c_of R (rl_failAt R (fun h2 R2 M2 => if_yes rfl (h0 q h2 R2 M2)))))
end PL1
-- reading: names and entities
theorem a_let_small {xs : List Nat} {p : Nat} : a_let xs p ≤ 6 ∧ (∀ j, j < a_let xs p → a_small (xs.getD (p + j) 0) = true) ∧ (a_let xs p < 6 → a_small (xs.getD (p + a_let xs p) 0) = false) := by
  unfold a_let
  have key : ∀ (m k : Nat), (∀ j, k ≤ j → j < k + m → (∀ i, mp_fst (fun k => !a_small (xs.getD (p + k) 0)) m k = some i → j < i) → a_small (xs.getD (p + j) 0) = true) := by
    intro m
    induction m with
    | zero => intro k j h1 h2; omega
    | succ m ih =>
      intro k j h1 h2 h3
      cases q : a_small (xs.getD (p + k) 0) with
      | true =>
        by_cases e : j = k
        · rw [e]; exact q
        · refine ih (k + 1) j (by omega) (by omega) (fun i hi => h3 i ?_)
          simp only [mp_fst, q, Bool.not_true, Bool.false_eq_true, if_false]
          exact hi
      | false =>
        have := h3 k (by simp only [mp_fst, q, Bool.not_false, if_true])
        omega
  cases e : mp_fst (fun k => !a_small (xs.getD (p + k) 0)) 6 0 with
  | none => exact ⟨Nat.le_refl _, fun j hj => key 6 0 j (by omega) (by omega) (fun i hi => by rw [e] at hi; cases hi), fun w => absurd w (Nat.lt_irrefl _)⟩
  | some n =>
    have h := mp_fst_some _ _ e
    refine ⟨by simp only []; omega, fun j hj => key 6 0 j (by omega) (by simp only [] at hj; omega) (fun i hi => by rw [e] at hi; cases hi; exact hj), fun _ => ?_⟩
    have := h.2
    simpa using this
theorem a_let_le {xs : List Nat} {p : Nat} (hp : p ≤ xs.length) : p + a_let xs p ≤ xs.length := by
  obtain ⟨_, h2, _⟩ := a_let_small (xs := xs) (p := p)
  rcases Nat.lt_or_ge xs.length (p + a_let xs p) with q | q
  · have := h2 (xs.length - p) (by omega)
    rw [show p + (xs.length - p) = xs.length by omega, List.getD_eq_getElem?_getD, List.getElem?_eq_none (Nat.le_refl _)] at this
    cases this
  · exact q
/-- a word and a ; behind it stand at p -/
def a_sk (xs : List Nat) (p : Nat) (ws : List Nat) : Bool := decide (p + ws.length < xs.length ∧ xs.getD (p + ws.length) 0 = 59 ∧ (xs.drop p).take ws.length = ws)
/-- the entity at p: what it stands for, and where its ; stands -/
def a_ent (xs : List Nat) (p : Nat) : Option (Nat × Nat) := if a_sk xs p [38, 108, 116] then some (60, p + 3) else if a_sk xs p [38, 103, 116] then some (62, p + 3) else if a_sk xs p [38, 97, 109, 112] then some (38, p + 4) else if a_sk xs p [38, 113, 117, 111, 116] then some (34, p + 5) else if a_sk xs p [38, 97, 112, 111, 115] then some (39, p + 5) else none
section PL2
variable {dA : Nat → ClassId} {h : hm_T} {z : hz_T} {y tt p rd sc : Nat} {wr tm : Int32} {xs : List Nat}
theorem rl_name60 (R : h y = some (r6c tt (p + a_let xs p) wr rd sc tm)) (t : rT z tt xs) (hp : p ≤ xs.length) {c s : Nat} (hc : 2 ≤ c) (hs : 146 ≤ s) {K : Option Nat → hm_T → hz_T → Prop} (hK : ∀ (h1 : hm_T) (z1 : hz_T) (t1 : Nat), hm_mo h h1 (fun _ => False) → hz_mo z z1 → (∃ u, z1 t1 = some (u, (xs.drop p).take (a_let xs p))) → K (some t1) h1 z1) : w_TextReader_readName6_60 dA y K (nI p) c s h z := by
  obtain ⟨⟨u, hu⟩, hl, hcx⟩ := t
  have hle := a_let_le hp
  unfold w_TextReader_readName6_60
  refine cg_R_ref R rfl (cg_I_of R rfl (cg_d_of (cg_k_of hc hs ⟨u, xs, p, p + a_let xs p, hu, rfl, rfl, by omega, hle, by omega, hcx, fun h1 z1 t1 u1 k1 k2 k3 => ?_⟩)))
  rw [Nat.add_sub_cancel_left] at k1
  exact hK h1 z1 t1 (fun b e hb _ => k2 b e hb) k3 ⟨u1, k1⟩
theorem rl_name43 (R : h y = some (r6c tt (p + a_let xs p) wr rd sc tm)) (t : rT z tt xs) (hp : p ≤ xs.length) {c s : Nat} (hc : 2 ≤ c) (hs : 146 ≤ s) {K : Option Nat → hm_T → hz_T → Prop} (hK : ∀ (h1 : hm_T) (z1 : hz_T) (t1 : Nat), h1 y = some (r6c tt (p + a_let xs p) (if a_let xs p = 0 then nI p else wr) rd sc tm) → hm_mo h h1 (fun b => b = y) → hz_mo z z1 → (∃ u, z1 t1 = some (u, (xs.drop p).take (a_let xs p))) → K (some t1) h1 z1) : w_TextReader_readName6_43 dA y K (nI p) c s h z := by
  have hl := t.2.1
  have h6 := (a_let_small (xs := xs) (p := p)).1
  unfold w_TextReader_readName6_43
  refine cg_I_of R rfl ?_
  by_cases q : a_let xs p = 0
  · refine if_yes (by rw [q]; rfl) (cg_I_of R rfl (cg_c_of R (rl_failAt R (fun h1 R1 M1 => rl_name60 R1 t hp hc hs (fun h2 z2 t2 M2 Mz2 k => ?_)))))
    refine hK h2 z2 t2 ?_ (M1.trans (M2.weak (fun _ w => w.elim))) Mz2 k
    rw [M2 _ _ R1 id, if_pos q, q]
    rfl
  · refine if_no (fun w => ?_) (rl_name60 R t hp hc hs (fun h2 z2 t2 M2 Mz2 k => hK h2 z2 t2 ?_ (M2.weak (fun _ w => w.elim)) Mz2 k))
    · have := (nI_eq (by omega) (by omega)).mp w
      omega
    · rw [if_neg q]; exact M2 _ _ R id
theorem rl_nameL (t : rT z tt xs) (hp : p ≤ xs.length) {c s : Nat} (hc : 2 ≤ c) (hs : 146 ≤ s) {K : Option Nat → hm_T → hz_T → Prop} : ∀ (r fu k : Nat) (h : hm_T), k + r = 6 → r < fu → a_let xs p = (match mp_fst (fun k => !a_small (xs.getD (p + k) 0)) r k with | some j => j | none => 6) → h y = some (r6c tt (p + k) wr rd sc tm) → (∀ (h1 : hm_T) (z1 : hz_T) (t1 : Nat), h1 y = some (r6c tt (p + a_let xs p) (if a_let xs p = 0 then nI p else wr) rd sc tm) → hm_mo h h1 (fun b => b = y) → hz_mo z z1 → (∃ u, z1 t1 = some (u, (xs.drop p).take (a_let xs p))) → K (some t1) h1 z1) → w_TextReader_readName6_5 dA y K fu (nI p) c s h z := by
  have hl := t.2.1
  intro r
  induction r with
  | zero =>
    intro fu k h hk hr ha R hK
    obtain ⟨fu, rfl⟩ : ∃ f, fu = f + 1 := ⟨fu - 1, by omega⟩
    obtain rfl : k = 6 := by omega
    have ha6 : a_let xs p = 6 := ha
    unfold w_TextReader_readName6_5
    refine cg_I_of R rfl (if_yes ?_ (rl_name43 (by rw [ha6]; exact R) t hp hc hs hK))
    rw [nI_sub (by omega), Nat.add_sub_cancel_left]
    exact nI_le (a := 6) (Nat.le_refl _) (by decide)
  | succ r ih =>
    intro fu k h hk hr ha R hK
    obtain ⟨fu, rfl⟩ : ∃ f, fu = f + 1 := ⟨fu - 1, by omega⟩
    have hcl := getD_lt t.2.2 (p + k)
    unfold w_TextReader_readName6_5
    refine cg_I_of R rfl (if_no ?_ (cg_I_of R rfl (cg_c_of R (rl_seen R t (by omega) (cp_small hcl ?_)))))
    · rw [nI_sub (by omega), Nat.add_sub_cancel_left]
      exact nI_ge (b := 6) (by omega) (by decide)
    · cases q : a_small (xs.getD (p + k) 0) with
      | false =>
        rw [if_neg (show ¬ false = true by decide)]
        simp only [mp_fst, q, Bool.not_false, if_true] at ha
        exact if_yes rfl (rl_name43 (by rw [ha]; exact R) t hp hc hs hK)
      | true =>
        rw [if_pos (show true = true from rfl)]
        simp only [mp_fst, q, Bool.not_true, Bool.false_eq_true, if_false] at ha
        refine if_no (by decide) (cg_I_of R rfl (cg_p_of R (show 1 < 6 by decide) ?_))
        rw [nI_1]
        exact ih fu (k + 1) _ (by omega) (by omega) ha hm_s (fun h1 z1 t1 k1 k2 k3 k4 => hK h1 z1 t1 k1 (hm_mo.trans (Y := fun b => b = y) (hm_mo.u rfl) k2) k3 k4)
theorem rl_name (R : h y = some (r6c tt p wr rd sc tm)) (t : rT z tt xs) (hp : p ≤ xs.length) {c s : Nat} (hc : 2 ≤ c) (hs : 146 ≤ s) {K : Option Nat → hm_T → hz_T → Prop} (hK : ∀ (h1 : hm_T) (z1 : hz_T) (t1 : Nat), h1 y = some (r6c tt (p + a_let xs p) (if a_let xs p = 0 then nI p else wr) rd sc tm) → hm_mo h h1 (fun b => b = y) → hz_mo z z1 → (∃ u, z1 t1 = some (u, (xs.drop p).take (a_let xs p))) → K (some t1) h1 z1) : w_TextReader_readName6 dA y c s K h z := by
  unfold w_TextReader_readName6
  exact cg_I_of R rfl (rl_nameL t hp hc hs 6 mF 0 h (by omega) (by unfold mF; omega) rfl R hK)
theorem rl_skip (R : h y = some (r6c tt p wr rd sc tm)) (t : rT z tt xs) (hp : p < 2 ^ 29) {tw uw : Nat} {ws : List Nat} (hw : z tw = some (uw, ws)) (hwl : ws.length < 100) (hwc : ∀ c ∈ ws, c < 128) {c s : Nat} (hc : 2 ≤ c) (hs : 146 ≤ s) {K : Int32 → hm_T → hz_T → Prop} (k1 : a_sk xs p ws = true → ∀ (h1 : hm_T) (z1 : hz_T), h1 y = some (r6c tt (p + ws.length) wr rd sc tm) → hm_mo h h1 (fun b => b = y) → hz_mo z z1 → K 1 h1 z1) (k0 : a_sk xs p ws = false → ∀ (h1 : hm_T) (z1 : hz_T), hm_mo h h1 (fun _ => False) → hz_mo z z1 → K 0 h1 z1) : w_MarkupReader_skip dA y (some tw) c s K h z := by
  obtain ⟨⟨u, hu⟩, hl, hcx⟩ := t
  unfold w_MarkupReader_skip w_MarkupReader_skip_34
  refine cg_I_of R rfl (cg_d_of ⟨uw, ws, hw, cg_R_ref R rfl (cg_d_of ⟨u, xs, hu, ?_⟩)⟩)
  rw [nI_add]
  have hcl := getD_lt hcx (p + ws.length)
  by_cases q1 : xs.length ≤ p + ws.length
  · exact if_yes (nI_le q1 (by omega)) (k0 (decide_eq_false (fun w => by omega)) h z hm_mo.refl hz_mo.refl)
  refine if_no (nI_ge (by omega) (by omega)) (cg_R_ref R rfl (cg_d_of ⟨u, xs, p + ws.length, hu, rfl, by omega, by omega, hcx, ?_⟩))
  by_cases q2 : xs.getD (p + ws.length) 0 = 59
  · refine if_yes (by rw [q2]; rfl) (cg_R_ref R rfl (cg_I_of R rfl (cg_d_of (cg_k_of hc hs ⟨u, xs, p, p + ws.length, hu, rfl, rfl, by omega, by omega, by omega, hcx, fun h1 z1 t1 u1 e1 e2 e3 => ?_⟩))))
    rw [Nat.add_sub_cancel_left] at e1
    have hm : ∀ c ∈ (xs.drop p).take ws.length, c < 128 := fun c hc => hcx c (List.mem_of_mem_drop (List.mem_of_mem_take hc))
    refine cg_d_of (cg_d_of ⟨u1, _, uw, ws, e1, e3 _ _ hw, by rw [List.length_take]; omega, by omega, hm, hwc, ?_⟩)
    by_cases q3 : (xs.drop p).take ws.length = ws
    · rw [if_pos q3]
      refine if_no (by decide) (cg_p_of (e2 _ _ R) (show 1 < 6 by decide) ?_)
      exact k1 (decide_eq_true ⟨by omega, q2, q3⟩) _ z1 hm_s ((show hm_mo h h1 (fun b => b = y) from fun b e hb _ => e2 b e hb).trans (hm_mo.u rfl)) e3
    · rw [if_neg q3]
      exact if_yes rfl (k0 (decide_eq_false (fun w => q3 w.2.2)) h1 z1 (fun b e hb _ => e2 b e hb) e3)
  · exact if_no (fun w => q2 ((nI_eq (b := 59) (by omega) (by decide)).mp w)) (k0 (decide_eq_false (fun w => q2 w.2.1)) h z hm_mo.refl hz_mo.refl)
theorem rl_entity (R : h y = some (r6c tt p wr rd sc tm)) (t : rT z tt xs) (hp : p < 2 ^ 29) {c s : Nat} (hc : 10 ≤ c) (hs : 730 ≤ s) {K : Int32 → hm_T → hz_T → Prop} (k1 : ∀ ch q, a_ent xs p = some (ch, q) → ∀ (h1 : hm_T) (z1 : hz_T), h1 y = some (r6c tt q wr rd sc tm) → hm_mo h h1 (fun b => b = y) → hz_mo z z1 → K (nI ch) h1 z1) (k0 : a_ent xs p = none → ∀ (h1 : hm_T) (z1 : hz_T), h1 y = some (r6c tt p (nI p) rd sc tm) → hm_mo h h1 (fun b => b = y) → hz_mo z z1 → K 0 h1 z1) : w_MarkupReader_readEntity dA y c s K h z := by
  unfold a_ent at k1 k0
  have ex : ∀ {h h1 : hm_T}, hm_mo h h1 (fun _ => False) → hm_mo h h1 (fun b => b = y) := fun m => m.weak (fun _ w => w.elim)
  unfold w_MarkupReader_readEntity
  refine fun a1 u1 l1 => cg_c_of R (cg_rm_of (c1 := 2) (s1 := 146) (by omega) (by omega) (rl_skip R t hp l1 (by decide) (by decide) (by omega) (by omega) (fun q h1 z1 R1 M1 Z1 => ?_) (fun q h1 z1 M1 Z1 => ?_)))
  · exact if_no (by decide) (k1 60 (p + 3) (by rw [q]; rfl) h1 z1 R1 M1 Z1)
  have R1 := M1 _ _ R id
  refine if_yes rfl (fun a2 u2 l2 => cg_c_of R1 (cg_rm_of (c1 := 2) (s1 := 146) (by omega) (by omega) (rl_skip R1 (t.mo Z1) hp l2 (by decide) (by decide) (by omega) (by omega) (fun q2 h2 z2 R2 M2 Z2 => ?_) (fun q2 h2 z2 M2 Z2 => ?_))))
  · exact if_no (by decide) (k1 62 (p + 3) (by rw [q, q2]; rfl) h2 z2 R2 ((ex M1).trans M2) (Z1.trans Z2))
  have R2 := M2 _ _ R1 id
  refine if_yes rfl (fun a3 u3 l3 => cg_c_of R2 (cg_rm_of (c1 := 2) (s1 := 146) (by omega) (by omega) (rl_skip R2 (t.mo (Z1.trans Z2)) hp l3 (by decide) (by decide) (by omega) (by omega) (fun q3 h3 z3 R3 M3 Z3 => ?_) (fun q3 h3 z3 M3 Z3 => ?_))))
  · exact if_no (by decide) (k1 38 (p + 4) (by rw [q, q2, q3]; rfl) h3 z3 R3 (((ex M1).trans (ex M2)).trans M3) ((Z1.trans Z2).trans Z3))
  have R3 := M3 _ _ R2 id
  refine if_yes rfl (fun a4 u4 l4 => cg_c_of R3 (cg_rm_of (c1 := 2) (s1 := 146) (by omega) (by omega) (rl_skip R3 (t.mo ((Z1.trans Z2).trans Z3)) hp l4 (by decide) (by decide) (by omega) (by omega) (fun q4 h4 z4 R4 M4 Z4 => ?_) (fun q4 h4 z4 M4 Z4 => ?_))))
  · exact if_no (by decide) (k1 34 (p + 5) (by rw [q, q2, q3, q4]; rfl) h4 z4 R4 ((((ex M1).trans (ex M2)).trans (ex M3)).trans M4) (((Z1.trans Z2).trans Z3).trans Z4))
  have R4 := M4 _ _ R3 id
  refine if_yes rfl (fun a5 u5 l5 => cg_c_of R4 (cg_rm_of (c1 := 2) (s1 := 146) (by omega) (by omega) (rl_skip R4 (t.mo (((Z1.trans Z2).trans Z3).trans Z4)) hp l5 (by decide) (by decide) (by omega) (by omega) (fun q5 h5 z5 R5 M5 Z5 => ?_) (fun q5 h5 z5 M5 Z5 => ?_))))
  · exact if_no (by decide) (k1 39 (p + 5) (by rw [q, q2, q3, q4, q5]; rfl) h5 z5 R5 (((((ex M1).trans (ex M2)).trans (ex M3)).trans (ex M4)).trans M5) ((((Z1.trans Z2).trans Z3).trans Z4).trans Z5))
  have R5 := M5 _ _ R4 id
  exact if_yes rfl (cg_I_of R5 rfl (cg_c_of R5 (rl_failAt R5 (fun h6 R6 M6 => k0 (by rw [q, q2, q3, q4, q5]; rfl) h6 z5 R6 ((((((ex M1).trans (ex M2)).trans (ex M3)).trans (ex M4)).trans (ex M5)).trans M6) ((((Z1.trans Z2).trans Z3).trans Z4).trans Z5)))))
end PL2
-- reading: values
/-- the value from p on, up to a < or to stop; or the place of its first error -/
def p_val (xs : List Nat) (stop : Nat) : Nat → Nat → List Nat → Nat ⊕ (Nat × List Nat)
  | 0, p, acc => .inr (p, acc)
  | f + 1, p, acc => if xs.length ≤ p then .inr (p, acc) else if xs.getD p 0 = 60 ∨ xs.getD p 0 = stop then .inr (p, acc) else if xs.getD p 0 = 38 then (match a_ent xs p with
    | none => .inl p
    | some (c, q) => p_val xs stop f (q + 1) (acc ++ [c])) else p_val xs stop f (p + 1) (acc ++ [xs.getD p 0])
/-- where a value's reading ends -/
def vE (r : Nat ⊕ (Nat × List Nat)) : Nat := match r with
  | .inl e => e
  | .inr (q, _) => q
theorem a_ent_some {xs : List Nat} {p c q : Nat} (e : a_ent xs p = some (c, q)) : p < q ∧ q < xs.length ∧ c < 128 := by
  unfold a_ent at e
  by_cases h1 : a_sk xs p [38, 108, 116] = true
  · rw [if_pos h1] at e; cases e
    have := (of_decide_eq_true h1).1
    simp at this; omega
  rw [if_neg h1] at e
  by_cases h2 : a_sk xs p [38, 103, 116] = true
  · rw [if_pos h2] at e; cases e
    have := (of_decide_eq_true h2).1
    simp at this; omega
  rw [if_neg h2] at e
  by_cases h3 : a_sk xs p [38, 97, 109, 112] = true
  · rw [if_pos h3] at e; cases e
    have := (of_decide_eq_true h3).1
    simp at this; omega
  rw [if_neg h3] at e
  by_cases h4 : a_sk xs p [38, 113, 117, 111, 116] = true
  · rw [if_pos h4] at e; cases e
    have := (of_decide_eq_true h4).1
    simp at this; omega
  rw [if_neg h4] at e
  by_cases h5 : a_sk xs p [38, 97, 112, 111, 115] = true
  · rw [if_pos h5] at e; cases e
    have := (of_decide_eq_true h5).1
    simp at this; omega
  rw [if_neg h5] at e
  cases e
/-- bytes that moved twice -/
theorem sv_chain {h h1 : hm_T} {Y : Nat → Prop} {sv sv1 sv2 : Nat} (M : hm_mo h h1 Y) (hY : ∀ b, Y b → b = sv ∨ h1 b ≠ none) (a : sv1 = sv ∨ h sv1 = none) (b : sv2 = sv1 ∨ h1 sv2 = none) : sv2 = sv ∨ h sv2 = none := by
  rcases b with b | b
  · rw [b]; exact a
  · cases e : h sv2 with
    | none => exact Or.inr rfl
    | some x =>
      by_cases q : Y sv2
      · rcases hY _ q with w | w
        · exact Or.inl w
        · exact absurd b w
      · have := M _ _ e q
        rw [b] at this
        cases this
/-- two steps that wrote the reader and the scratch -/
theorem mo_chain {h h1 h2 : hm_T} {y sc sv sv1 : Nat} (M1 : hm_mo h h1 (fun b => b = y ∨ b = sc ∨ b = sv)) (a : sv1 = sv ∨ h sv1 = none) (M2 : hm_mo h1 h2 (fun b => b = y ∨ b = sc ∨ b = sv1)) : hm_mo h h2 (fun b => b = y ∨ b = sc ∨ b = sv) := fun b e hb n => by
  refine M2 b e (M1 b e hb n) (fun w => ?_)
  rcases w with w | w | w
  · exact n (Or.inl w)
  · exact n (Or.inr (Or.inl w))
  · rcases a with q | q
    · exact n (Or.inr (Or.inr (w.trans q)))
    · rw [w, q] at hb; cases hb
theorem vE_ge {xs : List Nat} {stop : Nat} : ∀ (f p : Nat) (acc : List Nat), p ≤ vE (p_val xs stop f p acc) := by
  intro f
  induction f with
  | zero => intro p acc; exact Nat.le_refl _
  | succ f ih =>
    intro p acc
    unfold p_val
    by_cases q0 : xs.length ≤ p
    · rw [if_pos q0]; exact Nat.le_refl _
    rw [if_neg q0]
    by_cases q1 : xs.getD p 0 = 60 ∨ xs.getD p 0 = stop
    · rw [if_pos q1]; exact Nat.le_refl _
    rw [if_neg q1]
    by_cases q2 : xs.getD p 0 = 38
    · rw [if_pos q2]
      cases ea : a_ent xs p with
      | none => exact Nat.le_refl _
      | some x =>
        obtain ⟨c, r⟩ := x
        have h1 := a_ent_some ea
        have := ih (r + 1) (acc ++ [c])
        simp only []
        omega
    · rw [if_neg q2]
      have := ih (p + 1) (acc ++ [xs.getD p 0])
      omega
section PL3
variable {dA : Nat → ClassId} {y tt rd sc : Nat} {xs : List Nat}
/-- the end of readValue -/
theorem rl_val106 {h : hm_T} {z : hz_T} {p sv : Nat} {wr tm : Int32} {v : List Nat} (R : h y = some (r6c tt p wr rd sc tm)) (j : jb dA h sc sv v) (ht : tm = 0 ∨ tm = 1) {c s : Nat} (hc : 2 ≤ c) (hs : 146 ≤ s) {K : Option Nat → hm_T → hz_T → Prop} (hK : ∀ (h1 : hm_T) (z1 : hz_T) (t1 : Nat), h1 y = some (r6c tt p wr rd sc (if tm = 0 ∧ v.length ≤ 20 then 0 else 1)) → jb dA h1 sc sv v → hm_mo h h1 (fun b => b = y) → hz_mo z z1 → (∃ u, z1 t1 = some (u, v)) → K (some t1) h1 z1) : w_MarkupReader_readValue_106 dA y K c s h z := by
  obtain ⟨mb, nb, fb, b1, b2, br1, br2, br3⟩ := id j
  have hlv := tx_n142 br1
  have ysc : sc ≠ y := hm_ne b1 R rfl
  have ysv : sv ≠ y := hm_ne b2 R rfl
  have fin : ∀ (w0 : Int32) (c s : Nat), 2 ≤ c → 146 ≤ s → (w0 = 0 ∨ w0 = 1) → w0 = (if tm = 0 ∧ v.length ≤ 20 then 0 else 1) → w_MarkupReader_readValue_131 dA y K w0 c s h z := by
    intro w0 c s hc hs hw0 hw
    unfold w_MarkupReader_readValue_131
    refine ⟨hw0, cg_p_of R (show 5 < 6 by decide) ?_⟩
    have M : ∀ e, hm_mo h (hm_u h y e) (fun b => b = y) := fun e => hm_mo.u rfl
    have j1 : ∀ e, jb dA (hm_u h y e) sc sv v := fun e => j.mo (M e) ysc ysv
    refine cg_R_ref hm_s rfl (cg_d_of (cg_c_of (M _ _ _ b1 ysc) (cg_k_of hc hs ⟨sv, v, j1 _, fun h1 z1 t1 u1 e1 e2 e3 => ?_⟩)))
    refine hK h1 z1 t1 ?_ ((j1 _).mo (Y := fun _ => False) (fun b e hb _ => e2 b e hb) id id) ((M _).trans (fun b e hb _ => e2 b e hb)) e3 ⟨u1, e1⟩
    rw [← hw]
    exact e2 _ _ hm_s
  unfold w_MarkupReader_readValue_106 w_MarkupReader_readValue_126
  refine cg_I_of R rfl ?_
  by_cases q : tm = 0
  · refine if_yes q (cg_R_ref R rfl (cg_d_of (cg_c_of b1 (cg_rm_0 (cp_blen j ?_)))))
    by_cases q2 : v.length ≤ 20
    · exact if_yes (nI_le (b := 20) q2 (by decide)) (fin 0 c s hc hs (Or.inl rfl) (by rw [if_pos ⟨q, q2⟩]))
    · exact if_no (nI_ge (a := 20) (by omega) (by omega)) (fin 1 c s hc hs (Or.inr rfl) (by rw [if_neg (fun w => q2 w.2)]))
  · exact if_no q (fin 1 c s hc hs (Or.inr rfl) (by rw [if_neg (fun w => q w.1)]))
theorem rl_valL {stop : Nat} (hst : stop < 128) {tm : Int32} (ht : tm = 0 ∨ tm = 1) {K : Option Nat → hm_T → hz_T → Prop} : ∀ (f fu p i c s sv : Nat) (acc : List Nat) (h : hm_T) (z : hz_T), xs.length < p + f → xs.length < p + fu → 0 < fu → i ≤ p → p ≤ xs.length → acc.length + (xs.length - p) ≤ 119 + 1 → 2 + 11 * (vE (p_val xs stop f p acc) + 1 - p) ≤ c → 146 + 872 * (vE (p_val xs stop f p acc) + 1 - p) ≤ s → h y = some (r6c tt p (-1) rd sc tm) → rT z tt xs → jb dA h sc sv acc →
    (∀ q v, p_val xs stop f p acc = .inr (q, v) → ∀ (h1 : hm_T) (z1 : hz_T) (sv1 t1 : Nat), h1 y = some (r6c tt q (-1) rd sc (if tm = 0 ∧ v.length ≤ 20 then 0 else 1)) → jb dA h1 sc sv1 v → (sv1 = sv ∨ h sv1 = none) → hm_mo h h1 (fun b => b = y ∨ b = sc ∨ b = sv) → hz_mo z z1 → (∃ u, z1 t1 = some (u, v)) → K (some t1) h1 z1) →
    (∀ e, p_val xs stop f p acc = .inl e → ∀ (h1 : hm_T) (z1 : hz_T) (sv1 t1 p1 : Nat) (tm1 : Int32) (ws : List Nat), h1 y = some (r6c tt p1 (nI e) rd sc tm1) → jb dA h1 sc sv1 ws → (sv1 = sv ∨ h sv1 = none) → hm_mo h h1 (fun b => b = y ∨ b = sc ∨ b = sv) → hz_mo z z1 → (∃ u, z1 t1 = some (u, ws)) → K (some t1) h1 z1) → w_MarkupReader_readValue_10 dA y K fu (nI stop) (nI i) c s h z := by
  intro f
  induction f with
  | zero => intro fu p i c s sv acc h z hf; omega
  | succ f ih =>
    intro fu p i c s sv acc h z hf hfu hf0 hi hp hacc hc hs R t j kok kerr
    obtain ⟨fu, rfl⟩ : ∃ f, fu = f + 1 := ⟨fu - 1, by omega⟩
    have t0 := t
    obtain ⟨⟨u, hu⟩, hl, hcx⟩ := t
    obtain ⟨mb, nb, fb, b1, b2, br⟩ := id j
    have ysc : sc ≠ y := hm_ne b1 R rfl
    have ysv : sv ≠ y := hm_ne b2 R rfl
    have hve := vE_ge (xs := xs) (stop := stop) (f + 1) p acc
    have fin : p_val xs stop (f + 1) p acc = .inr (p, acc) → w_MarkupReader_readValue_106 dA y K c s h z := fun e => rl_val106 R j ht (by omega) (by omega) (fun h1 z1 t1 R1 j1 M1 Z1 k => kok p acc e h1 z1 sv t1 R1 j1 (Or.inl rfl) (M1.weak (fun b w => Or.inl w)) Z1 k)
    have ep : p_val xs stop (f + 1) p acc = if xs.length ≤ p then .inr (p, acc) else if xs.getD p 0 = 60 ∨ xs.getD p 0 = stop then .inr (p, acc) else if xs.getD p 0 = 38 then (match a_ent xs p with
      | none => .inl p
      | some (c, q) => p_val xs stop f (q + 1) (acc ++ [c])) else p_val xs stop f (p + 1) (acc ++ [xs.getD p 0]) := rfl
    unfold w_MarkupReader_readValue_10
    refine cg_R_ref R rfl (cg_d_of ⟨u, xs, hu, ?_⟩)
    by_cases q0 : xs.length ≤ p
    · have e := fin (by rw [ep, if_pos q0])
      by_cases qi : xs.length ≤ i
      · exact if_yes (nI_le qi (by omega)) e
      · exact if_no (nI_ge (by omega) (by omega)) (cg_I_of R rfl (cg_R_ref R rfl (cg_d_of ⟨u, xs, hu, if_yes (nI_le q0 (by omega)) e⟩)))
    rw [if_neg q0] at ep
    refine if_no (nI_ge (by omega) (by omega)) (cg_I_of R rfl (cg_R_ref R rfl (cg_d_of ⟨u, xs, hu, if_no (nI_ge (by omega) (by omega)) (cg_I_of R rfl (cg_c_of R (rl_seen R t0 (by omega) ?_)))⟩)))
    have hcl := getD_lt hcx p
    by_cases q1 : xs.getD p 0 = 60
    · exact if_yes (by rw [q1]; rfl) (fin (by rw [ep, if_pos (Or.inl q1)]))
    refine if_no (fun w => q1 ((nI_eq (b := 60) (by omega) (by decide)).mp w)) ?_
    by_cases q2 : xs.getD p 0 = stop
    · exact if_yes (by rw [q2]) (fin (by rw [ep, if_pos (Or.inr q2)]))
    refine if_no (fun w => q2 ((nI_eq (by omega) (by omega)).mp w)) (cg_R_ref R rfl ?_)
    rw [if_neg (fun w => w.elim q1 q2)] at ep
    -- a character goes in, and on
    have go : ∀ (ch q c1 s1 : Nat) (h1 : hm_T) (z1 : hz_T), ch < 128 → p ≤ q → q < xs.length → h1 y = some (r6c tt q (-1) rd sc tm) → hm_mo h h1 (fun b => b = y) → hz_mo z z1 → 3 + 11 * (vE (p_val xs stop (f + 1) p acc) + 1 - (q + 1)) ≤ c1 → 288 + 872 * (vE (p_val xs stop (f + 1) p acc) + 1 - (q + 1)) ≤ s1 → p_val xs stop (f + 1) p acc = p_val xs stop f (q + 1) (acc ++ [ch]) → w_MarkupReader_readValue_76 dA y K (w_MarkupReader_readValue_10 dA y K fu) (nI stop) (nI i) (nI ch) (some sc) c1 s1 h1 z1 := by
      intro ch q c1 s1 h1 z1 hch hpq hq R1 M1 Z1 hc1 hs1 e9
      have j1 := j.mo M1 ysc ysv
      unfold w_MarkupReader_readValue_76
      refine cg_d_of (cg_c_of (M1 _ _ b1 ysc) (cg_k_of (by omega) (by omega) ⟨sv, acc, ch, j1, by omega, rfl, hch, fun h2 sv2 j2 hu2 M2 => ?_⟩))
      have R2 := M2 _ _ R1 (Ne.symm ysc) (Ne.symm ysv)
      refine cg_c_of R2 (rl_failed0 R2 (if_yes rfl (cg_I_of R2 rfl (cg_p_of R2 (show 1 < 6 by decide) ?_))))
      obtain ⟨mb2, nb2, fb2, d1, d2, dr⟩ := id j2
      have ysv2 : sv2 ≠ y := hm_ne d2 R2 rfl
      rw [nI_1, nI_1]
      have M3 : ∀ e, hm_mo h2 (hm_u h2 y e) (fun b => b = y) := fun e => hm_mo.u rfl
      have M12 : hm_mo h h2 (fun b => b = y ∨ b = sc ∨ b = sv) := fun b e hb n => M2 b e (M1 b e hb (fun w => n (Or.inl w))) (fun w => n (Or.inr (Or.inl w))) (fun w => n (Or.inr (Or.inr w)))
      have hu0 : sv2 = sv ∨ h sv2 = none := sv_chain M1 (fun b w => Or.inr (by rw [w, R1]; simp)) (Or.inl rfl) hu2
      have M13 : ∀ e, hm_mo h (hm_u h2 y e) (fun b => b = y ∨ b = sc ∨ b = sv) := fun e => M12.trans ((M3 e).weak (fun b w => Or.inl w))
      refine ih fu (q + 1) (i + 1) (c1 - 1) (s1 - 142) sv2 (acc ++ [ch]) _ z1 (by omega) (by omega) (by omega) (by omega) (by omega) (by rw [List.length_append]; simp; omega) (by rw [← e9]; omega) (by rw [← e9]; omega) hm_s (t0.mo Z1) (j2.mo (M3 _) ysc ysv2) ?_ ?_
      · intro q9 v e h3 z3 sv3 t3 R3 j3 hu3 M4 Z4 k
        refine kok q9 v (by rw [e9]; exact e) h3 z3 sv3 t3 R3 j3 ?_ (mo_chain (M13 _) hu0 M4) (Z1.trans Z4) k
        exact sv_chain (M13 _) (fun b w => w.elim (fun w => Or.inr (by rw [w, hm_s]; simp)) (fun w => w.elim (fun w => Or.inr (by rw [w, (M3 _) _ _ d1 ysc]; simp)) Or.inl)) hu0 hu3
      · intro e8 e h3 z3 sv3 t3 p3 tm3 ws3 R3 j3 hu3 M4 Z4 k
        refine kerr e8 (by rw [e9]; exact e) h3 z3 sv3 t3 p3 tm3 ws3 R3 j3 ?_ (mo_chain (M13 _) hu0 M4) (Z1.trans Z4) k
        exact sv_chain (M13 _) (fun b w => w.elim (fun w => Or.inr (by rw [w, hm_s]; simp)) (fun w => w.elim (fun w => Or.inr (by rw [w, (M3 _) _ _ d1 ysc]; simp)) Or.inl)) hu0 hu3
    by_cases q3 : xs.getD p 0 = 38
    · rw [if_pos q3] at ep
      refine if_yes (by rw [q3]; rfl) (cg_c_of R (cg_rm_of (c1 := 10) (s1 := 730) (by omega) (by omega) (rl_entity R t0 (by omega) (Nat.le_refl _) (Nat.le_refl _) ?_ ?_)))
      · intro ch q e h1 z1 R1 M1 Z1
        have he := a_ent_some e
        rw [e] at ep
        have ep2 : p_val xs stop (f + 1) p acc = p_val xs stop f (q + 1) (acc ++ [ch]) := ep
        have hv2 := vE_ge (xs := xs) (stop := stop) f (q + 1) (acc ++ [ch])
        rw [← ep2] at hv2
        exact go ch q (c - 10) (s - 730) h1 z1 he.2.2 (by omega) he.2.1 R1 M1 Z1 (by omega) (by omega) ep2
      · intro e h1 z1 R1 M1 Z1
        rw [e] at ep
        have j1 := j.mo M1 ysc ysv
        unfold w_MarkupReader_readValue_76
        refine cg_d_of (cg_c_of (M1 _ _ b1 ysc) (cg_k_of (by omega) (by omega) ⟨sv, acc, 0, j1, by omega, rfl, by decide, fun h2 sv2 j2 hu2 M2 => ?_⟩))
        have R2 := M2 _ _ R1 (Ne.symm ysc) (Ne.symm ysv)
        have hu0 : sv2 = sv ∨ h sv2 = none := sv_chain M1 (fun b w => Or.inr (by rw [w, R1]; simp)) (Or.inl rfl) hu2
        have M12 : hm_mo h h2 (fun b => b = y ∨ b = sc ∨ b = sv) := fun b e hb n => M2 b e (M1 b e hb (fun w => n (Or.inl w))) (fun w => n (Or.inr (Or.inl w))) (fun w => n (Or.inr (Or.inr w)))
        exact cg_c_of R2 (rl_failed1 R2 (by omega) (if_no (by decide) (rl_val106 R2 j2 ht (by omega) (by omega) (fun h3 z3 t3 R3 j3 M3 Z3 k => kerr p ep h3 z3 sv2 t3 p _ _ R3 j3 hu0 (M12.trans (M3.weak (fun b w => Or.inl w))) (Z1.trans Z3) k))))
    · rw [if_neg q3] at ep
      have hv2 := vE_ge (xs := xs) (stop := stop) f (p + 1) (acc ++ [xs.getD p 0])
      rw [← ep] at hv2
      exact if_no (fun w => q3 ((nI_eq (b := 38) (by omega) (by decide)).mp w)) (go (xs.getD p 0) p c s h z hcl (Nat.le_refl _) (by omega) R hm_mo.refl hz_mo.refl (by omega) (by omega) ep)
theorem rl_value {stop : Nat} (hst : stop < 128) {tm : Int32} (ht : tm = 0 ∨ tm = 1) {p c s sv : Nat} {ws : List Nat} {h : hm_T} {z : hz_T} (hp : p ≤ xs.length) (hc : 3 + 11 * (vE (p_val xs stop 200 p []) + 1 - p) ≤ c) (hs : 288 + 872 * (vE (p_val xs stop 200 p []) + 1 - p) ≤ s) (R : h y = some (r6c tt p (-1) rd sc tm)) (t : rT z tt xs) (j : jb dA h sc sv ws) {K : Option Nat → hm_T → hz_T → Prop}
    (kok : ∀ q v, p_val xs stop 200 p [] = .inr (q, v) → ∀ (h1 : hm_T) (z1 : hz_T) (sv1 t1 : Nat), h1 y = some (r6c tt q (-1) rd sc (if tm = 0 ∧ v.length ≤ 20 then 0 else 1)) → jb dA h1 sc sv1 v → (sv1 = sv ∨ h sv1 = none) → hm_mo h h1 (fun b => b = y ∨ b = sc ∨ b = sv) → hz_mo z z1 → (∃ u, z1 t1 = some (u, v)) → K (some t1) h1 z1)
    (kerr : ∀ e, p_val xs stop 200 p [] = .inl e → ∀ (h1 : hm_T) (z1 : hz_T) (sv1 t1 p1 : Nat) (tm1 : Int32) (ws : List Nat), h1 y = some (r6c tt p1 (nI e) rd sc tm1) → jb dA h1 sc sv1 ws → (sv1 = sv ∨ h sv1 = none) → hm_mo h h1 (fun b => b = y ∨ b = sc ∨ b = sv) → hz_mo z z1 → (∃ u, z1 t1 = some (u, ws)) → K (some t1) h1 z1) : w_MarkupReader_readValue dA y (nI stop) c s K h z := by
  obtain ⟨mb, nb, fb, b1, b2, br⟩ := id j
  have ysc : sc ≠ y := hm_ne b1 R rfl
  have hl := t.2.1
  unfold w_MarkupReader_readValue
  refine cg_R_ref R rfl (cg_d_of (cg_c_of b1 (cg_k_of (by omega) (by omega) ⟨sv, ws, j, rfl, fun h1 j1 M1 => ?_⟩)))
  have R1 := M1 _ _ R (Ne.symm ysc)
  have M1' : hm_mo h h1 (fun b => b = y ∨ b = sc ∨ b = sv) := fun b e hb n => M1 b e hb (fun w => n (Or.inr (Or.inl w)))
  obtain ⟨mb1, nb1, fb1, d1, d2, dr⟩ := id j1
  have hYs : ∀ b, (b = y ∨ b = sc ∨ b = sv) → b = sv ∨ h1 b ≠ none := fun b w => w.elim (fun w => Or.inr (by rw [w, R1]; simp)) (fun w => w.elim (fun w => Or.inr (by rw [w, d1]; simp)) Or.inl)
  exact rl_valL hst ht 200 mF p 0 (c - 1) (s - 142) sv [] h1 z (by omega) (by unfold mF; omega) (by unfold mF; omega) (by omega) hp (by simp; omega) (by omega) (by omega) R1 t j1 (fun q v e h2 z2 sv2 t2 R2 j2 hu2 M2 Z2 k => kok q v e h2 z2 sv2 t2 R2 j2 (sv_chain M1' hYs (Or.inl rfl) hu2) (mo_chain M1' (Or.inl rfl) M2) Z2 k) (fun e8 e h2 z2 sv2 t2 p2 tm2 ws2 R2 j2 hu2 M2 Z2 k => kerr e8 e h2 z2 sv2 t2 p2 tm2 ws2 R2 j2 (sv_chain M1' hYs (Or.inl rfl) hu2) (mo_chain M1' (Or.inl rfl) M2) Z2 k)
end PL3
-- reading: lists
theorem sh_half : ∀ n : Fin 201, nI n.1 >>> ((1 : Int32) &&& 31) = nI (n.1 / 2) := by decide +kernel
section PL4
variable {dA : Nat → ClassId} {h : hm_T} {z : hz_T} {q d x : Nat} {as : List Nat}
theorem jo.mo {h h1 : hm_T} {Y : Nat → Prop} {x : Nat} (j : jo h x) (M : hm_mo h h1 Y) (hx : ¬ Y x) : jo h1 x := by
  obtain ⟨ci, fs, c, r⟩ := j
  exact ⟨ci, fs, M _ _ c hx, r⟩
/-- an object that may lie in a list is none of a list's cells -/
theorem jo.neq {h : hm_T} {x b : Nat} {e : va_E} (j : jo h x) (c : h b = some e) (ht : Nat.beq (hm_tag e) 8 = false ∧ Nat.beq (hm_tag e) 9 = false ∧ Nat.beq (hm_tag e) 12 = false ∧ Nat.beq (hm_tag e) 13 = false) : x ≠ b := by
  obtain ⟨ci, fs, c1, r⟩ := j
  rintro rfl
  rw [c] at c1
  cases c1
  rcases r with r | r | r | r <;> subst r
  · exact absurd ht.1 (by simp [hm_tag])
  · exact absurd ht.2.1 (by simp [hm_tag])
  · exact absurd ht.2.2.1 (by simp [hm_tag])
  · exact absurd ht.2.2.2 (by simp [hm_tag])
/-- the last step of add: the element into the array, one more -/
theorem ja_add11 {mo : Int32} {n k : Nat} {f : Nat → Option Nat} (c1 : h q = some (.inr (4, [.int mo, .ref d, .int (nI k)]))) (c2 : h d = some (.inl (dA 6, n, .inr (.inr (.inr (.inr f)))))) (hk : k < n) (hn : n ≤ 200) (jx : jo h x) {c s : Nat} {K : hm_T → hz_T → Prop} (hK : ∀ h1, h1 q = some (.inr (4, [.int mo, .ref d, .int (nI (k + 1))])) → h1 d = some (.inl (dA 6, n, .inr (.inr (.inr (.inr (va_up f k (some x))))))) → hm_mo h h1 (fun b => b = q ∨ b = d) → K h1 z) : w_AL_add3_11 dA q K (some x) (some d) (nI k) c s h z := by
  unfold w_AL_add3_11
  refine cg_d_of (cg_d_of ⟨jx, n, f, c2, vp_inI hk (by omega), ?_⟩)
  rw [nI_clamp (by omega)]
  have n1 : q ≠ d := hm_ne c1 c2 rfl
  have c3 : (hm_u h d (.inl (dA 6, n, .inr (.inr (.inr (.inr (va_up f k (some x))))))) : hm_T) q = some (.inr (4, [.int mo, .ref d, .int (nI k)])) := by rw [hm_n n1]; exact c1
  refine cg_p_of c3 (show 2 < 3 by decide) ?_
  rw [nI_1]
  refine hK _ hm_s ?_ (((hm_mo.u (Or.inr rfl)) : hm_mo h _ (fun b => b = q ∨ b = d)).trans (hm_mo.u (Or.inl rfl)))
  rw [hm_n (Ne.symm n1)]
  exact hm_s
theorem getD_app_l {as : List Nat} {x i : Nat} (h : i < as.length) : (as ++ [x]).getD i 0 = as.getD i 0 := by
  rw [List.getD_eq_getElem?_getD, List.getElem?_append_left h, ← List.getD_eq_getElem?_getD]
theorem getD_app_r {as : List Nat} {x : Nat} : (as ++ [x]).getD as.length 0 = x := by
  rw [List.getD_eq_getElem?_getD, List.getElem?_append_right (Nat.le_refl _), Nat.sub_self]
  rfl
theorem ja_add (j : ja dA h q d as) (hl : as.length ≤ 130) (jx : jo h x) (ja1 : ∀ i, i < as.length → jo h (as.getD i 0)) {c s : Nat} (hc : 1 ≤ c) (hs : 200 ≤ s) {K : Int32 → hm_T → hz_T → Prop} (hK : ∀ h1 d1, ja dA h1 q d1 (as ++ [x]) → ((d1 = d ∧ as ≠ []) ∨ h d1 = none) → hm_mo h h1 (fun b => b = q ∨ (b = d ∧ as ≠ [])) → K 1 h1 z) : w_AL_add dA q (some x) c s K h z := by
  obtain ⟨mo, c1, c2⟩ := j
  unfold w_AL_add
  have jx1 : ∀ e, jo (hm_u h q e) x := fun e => jx.mo (hm_mo.u (Y := fun b => b = q) rfl) (jx.neq c1 ⟨rfl, rfl, rfl, rfl⟩)
  refine cg_I_of c1 rfl (cg_p_of c1 (show 0 < 3 by decide) (cg_R_ref hm_s rfl (cg_I_of hm_s rfl (cg_c_of hm_s (cg_rm_of hc hs ?_)))))
  unfold w_AL_add3
  rcases c2 with ⟨e0, ed⟩ | ⟨e0, n, f, c3, l1, l2, l3⟩
  · -- the first element
    subst e0
    refine cg_d_of ⟨0, Or.inr ⟨ed, rfl⟩, if_yes rfl (cg_c_of hm_s (cg_rm_of (Nat.le_refl _) (Nat.le_refl _) ?_))⟩
    unfold w_AL_grow
    refine cg_I_of hm_s rfl (cg_c_of hm_s (cg_rm_of (Nat.le_refl _) (Nat.le_refl _) ?_))
    unfold w_AL_growI
    refine cg_R_ref hm_s rfl (cg_d_of ⟨0, Or.inr ⟨ed, rfl⟩, if_no (by decide) (cg_R_ref hm_s rfl (if_yes (by rw [ed]) ⟨10, 0, 190, by decide, by decide, rfl, rfl, fun d1 hd1 => ?_⟩))⟩)
    have n0 : d1 ≠ q := fun w => by rw [w, hm_s] at hd1; cases hd1
    have hd0 : h d1 = none := by rw [hm_n n0] at hd1; exact hd1
    refine cg_p_of (fs := [.int (mo + 1), .ref d, .int (nI ([] : List Nat).length)]) (by rw [hm_n (Ne.symm n0)]; exact hm_s) (show 1 < 3 by decide) ?_
    have M : ∀ e1 e2 e3, hm_mo h (hm_u (hm_u (hm_u h q e1) d1 e2) q e3) (fun b => b = q) := fun e1 e2 e3 b e hb n => by
      rw [hm_n n, hm_n (hm_nn hb hd0), hm_n n]; exact hb
    refine ja_add11 (k := 0) hm_s (by rw [hm_n n0]; exact hm_s) (by decide) (by decide) (jx.mo (M _ _ _) (jx.neq c1 ⟨rfl, rfl, rfl, rfl⟩)) (fun h2 k1 k2 M2 => ?_)
    refine hK h2 d1 ⟨_, k1, Or.inr ⟨by simp, 10, _, k2, by simp, by decide, fun i hi => ?_⟩⟩ (Or.inr hd0) (fun b e hb n => ?_)
    · have : i = 0 := by simp at hi; omega
      subst this
      exact va_up_self _ _ _
    · refine M2 b e (M _ _ _ b e hb (fun w => n (Or.inl w))) (fun w => w.elim (fun w => n (Or.inl w)) (fun w => ?_))
      rw [w, hd0] at hb; cases hb
  · have nqd : d ≠ q := hm_ne c3 c1 rfl
    by_cases q1 : as.length < n
    · -- there is place
      refine cg_d_of ⟨nI n, Or.inl ⟨n, f, by rw [hm_n nqd]; exact c3, rfl⟩, if_no (fun w => ?_) ?_⟩
      · have := (nI_eq (by omega) (by omega)).mp w; omega
      · refine ja_add11 hm_s (by rw [hm_n nqd]; exact c3) q1 l2 (jx1 _) (fun h2 k1 k2 M2 => ?_)
        refine hK h2 d ⟨_, by rw [k1, List.length_append]; rfl, Or.inr ⟨by simp, n, _, k2, by rw [List.length_append]; simp; omega, l2, fun i hi => ?_⟩⟩ (Or.inl ⟨rfl, e0⟩) (fun b e hb n9 => ?_)
        · rw [List.length_append] at hi
          by_cases w : i = as.length
          · subst w; rw [va_up_self, getD_app_r]
          · have : i < as.length := by simp at hi; omega
            rw [va_up_ne _ _ w, getD_app_l this]; exact l3 i this
        · refine M2 b e ?_ (fun w => w.elim (fun w => n9 (Or.inl w)) (fun w => n9 (Or.inr ⟨w, e0⟩)))
          rw [hm_n (fun w => n9 (Or.inl w))]; exact hb
    · -- it grows
      have en : as.length = n := by omega
      have n0 : 0 < n := by rw [← en]; exact List.length_pos_iff.mpr e0
      have hh : nI n >>> ((1 : Int32) &&& 31) = nI (n / 2) := sh_half ⟨n, by omega⟩
      refine cg_d_of ⟨nI n, Or.inl ⟨n, f, by rw [hm_n nqd]; exact c3, rfl⟩, if_yes (by rw [en]) (cg_c_of hm_s (cg_rm_of (Nat.le_refl _) (Nat.le_refl _) ?_))⟩
      unfold w_AL_grow
      refine cg_I_of hm_s rfl (cg_c_of hm_s (cg_rm_of (Nat.le_refl _) (Nat.le_refl _) ?_))
      unfold w_AL_growI
      refine cg_R_ref hm_s rfl (cg_d_of ⟨nI n, Or.inl ⟨n, f, by rw [hm_n nqd]; exact c3, rfl⟩, if_yes (show (0 : Int32) < nI n from nI_lt (a := 0) n0 (by omega)) ?_⟩)
      unfold w_AL_growI_20
      refine cg_rm_0 ?_
      obtain ⟨N, hN1, hN2, hN3⟩ : ∃ N : Nat, (nI n + (if nI as.length + 1 - nI n < nI n >>> ((1 : Int32) &&& 31) then nI n >>> ((1 : Int32) &&& 31) else nI as.length + 1 - nI n) : Int32) = nI N ∧ n < N ∧ N ≤ 200 := by
        rw [hh, nI_1, nI_sub (by omega), show as.length + 1 - n = 1 by omega]
        by_cases w : 1 < n / 2
        · rw [if_pos (nI_lt w (by omega)), nI_add]
          exact ⟨_, rfl, by omega, by omega⟩
        · rw [if_neg (nI_nlt (by omega) (by omega)), nI_add]
          exact ⟨_, rfl, by omega, by omega⟩
      unfold w_ArraysSupport_newLength
      rw [hN1]
      refine if_no (show ¬ nI N ≤ 0 from nI_ge (a := 0) (by omega) (by omega)) (if_no (show ¬ 2147483639 < nI N from nI_nlt (a := 2147483639) (by omega) (by decide)) (cg_R_ref hm_s rfl (cg_rm_of (c1 := 1) (s1 := 200) (by omega) (by omega) ?_)))
      unfold w_Arrays_copyOfO
      refine cg_d_of ⟨n, f, by rw [hm_n nqd]; exact c3, cg_rm_of (Nat.le_refl _) (Nat.le_refl _) ?_⟩
      unfold w_Arrays_copyOfC
      refine if_yes rfl ⟨N, 0, 200 - N, rfl, by omega, rfl, by omega, fun d1 hd1 => ?_⟩
      have m0 : d1 ≠ q := fun w => by rw [w, hm_s] at hd1; cases hd1
      have hd0 : h d1 = none := by rw [hm_n m0] at hd1; exact hd1
      have m1 : d ≠ d1 := hm_nn c3 hd0
      unfold w_Arrays_copyOfC_24
      have cd : ∀ e1 e2, (hm_u (hm_u h q e1) d1 e2 : hm_T) d = some (.inl (dA 6, n, .inr (.inr (.inr (.inr f))))) := fun e1 e2 => by rw [hm_n m1, hm_n nqd]; exact c3
      refine cg_d_of ⟨nI n, Or.inl ⟨n, f, cd _ _, rfl⟩, cg_d_of (cg_d_of ?_)⟩
      rw [if_neg (show ¬ nI N < nI n from nI_nlt (by omega) (by omega))]
      have M0 : ∀ e1 e2, hm_mo h (hm_u (hm_u h q e1) d1 e2) (fun b => b = q) := fun e1 e2 b e hb n9 => by
        rw [hm_n (hm_nn hb hd0), hm_n n9]; exact hb
      refine ⟨n, n, N, f, _, rfl, cd _ _, hm_s, Nat.le_refl _, by omega, by omega, by omega, fun i hi y9 hy => ?_, ?_⟩
      · have := l3 i (by omega)
        rw [hy] at this
        cases this
        exact (ja1 i (by omega)).mo (M0 _ _) ((ja1 i (by omega)).neq c1 ⟨rfl, rfl, rfl, rfl⟩)
      · refine cg_p_of (fs := [.int (mo + 1), .ref d, .int (nI as.length)]) (by rw [hm_n (Ne.symm m0), hm_n (Ne.symm m0)]; exact hm_s) (show 1 < 3 by decide) ?_
        have M : ∀ e1 e2 e3 e4, hm_mo h (hm_u (hm_u (hm_u (hm_u h q e1) d1 e2) d1 e3) q e4) (fun b => b = q) := fun e1 e2 e3 e4 b e hb n9 => by
          rw [hm_n n9, hm_n (hm_nn hb hd0), hm_n (hm_nn hb hd0), hm_n n9]; exact hb
        refine ja_add11 hm_s (by rw [hm_n m0]; exact hm_s) (show as.length < N by omega) hN3 (jx.mo (M _ _ _ _) (jx.neq c1 ⟨rfl, rfl, rfl, rfl⟩)) (fun h2 k1 k2 M2 => ?_)
        refine hK h2 d1 ⟨_, by rw [k1, List.length_append]; rfl, Or.inr ⟨by simp, N, _, k2, by rw [List.length_append]; simp; omega, hN3, fun i hi => ?_⟩⟩ (Or.inr hd0) (fun b e hb n9 => ?_)
        · rw [List.length_append] at hi
          by_cases w : i = as.length
          · subst w; rw [va_up_self, getD_app_r]
          · have hi2 : i < as.length := by simp at hi; omega
            rw [va_up_ne _ _ w, getD_app_l hi2]
            unfold va_cpy
            rw [if_pos (by omega), Nat.zero_add, Nat.sub_zero]
            exact l3 i hi2
        · refine M2 b e (M _ _ _ _ b e hb (fun w => n9 (Or.inl w))) (fun w => w.elim (fun w => n9 (Or.inl w)) (fun w => ?_))
          rw [w, hd0] at hb; cases hb
theorem ja_init {c s : Nat} (c1 : h q = some (.inr (4, [.int 0, .null, .int 0]))) {K : hm_T → hz_T → Prop} (hK : ∀ h1, ja dA h1 q (dA 99) [] → hm_mo h h1 (fun b => b = q) → K h1 z) : w_ArrayList_init dA q c s K h z := by
  unfold w_ArrayList_init
  refine cg_c_of c1 (cg_rm_0 ?_)
  unfold w_AbstractList_init4
  refine cg_c_of c1 (cg_rm_0 ?_)
  unfold w_AbstractCollection_init4
  refine cg_p_of c1 (show 0 < 3 by decide) (cg_p_of hm_s (show 1 < 3 by decide) ?_)
  rw [hm_uu]
  exact hK _ ⟨0, hm_s, Or.inl ⟨rfl, rfl⟩⟩ (hm_mo.u rfl)
end PL4
