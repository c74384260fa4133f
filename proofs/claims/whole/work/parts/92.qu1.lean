-- reading paths: the reader's cell and its small steps
/-- a reader of paths: text, place, first error -/
def r10 (tt p : Nat) (wr : Int32) : va_E := .inr (10, [.ref tt, .int (nI p), .int wr])
section QU1
variable {dA : Nat → ClassId} {h : hm_T} {z : hz_T} {y tt p : Nat} {wr : Int32} {xs : List Nat}
theorem ro_seen (R : h y = some (r10 tt p wr)) (t : rT z tt xs) {i : Nat} (hi : i < 2 ^ 31) {K : Int32 → hm_T → hz_T → Prop} (hK : K (nI (xs.getD i 0)) h z) : w_TextReader_seen10 dA y (nI i) K h z := by
  obtain ⟨⟨u, hu⟩, hl, hc⟩ := t
  unfold w_TextReader_seen10
  refine cg_R_ref R rfl (cg_d_of ⟨u, xs, hu, ?_⟩)
  by_cases q : xs.length ≤ i
  · rw [List.getD_eq_getElem?_getD, List.getElem?_eq_none q] at hK
    exact if_yes (nI_le q hi) hK
  · exact if_no (nI_ge (by omega) (by omega)) (cg_R_ref R rfl (cg_d_of ⟨u, xs, i, hu, rfl, by omega, by omega, hc, cg_ch_of (getD_lt hc i) hK⟩))
theorem ro_failAt (R : h y = some (r10 tt p wr)) {i : Nat} {K : Int32 → hm_T → hz_T → Prop} (hK : ∀ h1, h1 y = some (r10 tt p (nI i)) → hm_mo h h1 (fun b => b = y) → K 0 h1 z) : w_TextReader_failAt10 dA y (nI i) K h z := by
  unfold w_TextReader_failAt10
  exact cg_p_of R (show 2 < 3 by decide) (hK _ hm_s (hm_mo.u rfl))
theorem ro_failed0 (R : h y = some (r10 tt p (-1))) {K : Int32 → hm_T → hz_T → Prop} (hK : K 0 h z) : w_TextReader_failed10 dA y K h z := by
  unfold w_TextReader_failed10
  exact cg_I_of R rfl (if_yes rfl hK)
theorem ro_failed1 {e : Nat} (R : h y = some (r10 tt p (nI e))) (he : e < 2 ^ 31) {K : Int32 → hm_T → hz_T → Prop} (hK : K 1 h z) : w_TextReader_failed10 dA y K h z := by
  unfold w_TextReader_failed10
  refine cg_I_of R rfl (if_no (fun q => ?_) hK)
  have := congrArg Int32.toInt q
  rw [nI_toInt he, show (-1 : Int32).toInt = -1 by decide] at this
  omega
theorem ro_take (R : h y = some (r10 tt p wr)) (t : rT z tt xs) (hp : p < 2 ^ 30) {c : Nat} (hc : c < 128) {K : Int32 → hm_T → hz_T → Prop} (h1 : xs.getD p 0 = c → ∀ h1, h1 y = some (r10 tt (p + 1) wr) → hm_mo h h1 (fun b => b = y) → K 1 h1 z) (h0 : xs.getD p 0 ≠ c → ∀ h1, h1 y = some (r10 tt p (nI p)) → hm_mo h h1 (fun b => b = y) → K 0 h1 z) : w_TextReader_take10 dA y (nI c) K h z := by
  have hl := getD_lt t.2.2 p
  unfold w_TextReader_take10
  refine cg_I_of R rfl (cg_c_of R (ro_seen R t (by omega) ?_))
  by_cases q : xs.getD p 0 = c
  · refine if_yes (by rw [q]) (cg_I_of R rfl (cg_p_of R (show 1 < 3 by decide) ?_))
    rw [nI_1]
    exact h1 q _ hm_s (hm_mo.u rfl)
  · refine if_no (fun w => q ((nI_eq (by omega) (by omega)).mp w)) (cg_I_of R rfl (cg_c_of R (ro_failAt R (fun h2 R2 M2 => ⟨Or.inl rfl, h0 q h2 R2 M2⟩))))
theorem ro_readEnd (R : h y = some (r10 tt p wr)) (t : rT z tt xs) (hp : p < 2 ^ 30) {K : Int32 → hm_T → hz_T → Prop} (h1 : p = xs.length → K 1 h z) (h0 : p ≠ xs.length → ∀ h1, h1 y = some (r10 tt p (nI p)) → hm_mo h h1 (fun b => b = y) → K 0 h1 z) : w_TextReader_readEnd10 dA y K h z := by
  obtain ⟨⟨u, hu⟩, hl, hc⟩ := t
  unfold w_TextReader_readEnd10
  refine cg_I_of R rfl (cg_R_ref R rfl (cg_d_of ⟨u, xs, hu, ?_⟩))
  by_cases q : p = xs.length
  · exact if_yes (by rw [q]) (h1 q)
  · exact if_no (fun w => q ((nI_eq (by omega) (by omega)).mp w)) (cg_I_of R rfl (cg_c_of R (ro_failAt R (fun h2 R2 M2 => if_yes rfl (h0 q h2 R2 M2)))))

theorem ro_name60 (R : h y = some (r10 tt (p + a_let xs p) wr)) (t : rT z tt xs) (hp : p ≤ xs.length) {c s : Nat} (hc : 2 ≤ c) (hs : 146 ≤ s) {K : Option Nat → hm_T → hz_T → Prop} (hK : ∀ (h1 : hm_T) (z1 : hz_T) (t1 : Nat), hm_mo h h1 (fun _ => False) → hz_mo z z1 → (∃ u, z1 t1 = some (u, (xs.drop p).take (a_let xs p))) → K (some t1) h1 z1) : w_TextReader_readName10_60 dA y K (nI p) c s h z := by
  obtain ⟨⟨u, hu⟩, hl, hcx⟩ := t
  have hle := a_let_le hp
  unfold w_TextReader_readName10_60
  refine cg_R_ref R rfl (cg_I_of R rfl (cg_d_of (cg_k_of hc hs ⟨u, xs, p, p + a_let xs p, hu, rfl, rfl, by omega, hle, by omega, hcx, fun h1 z1 t1 u1 k1 k2 k3 => ?_⟩)))
  rw [Nat.add_sub_cancel_left] at k1
  exact hK h1 z1 t1 (fun b e hb _ => k2 b e hb) k3 ⟨u1, k1⟩
theorem ro_name43 (R : h y = some (r10 tt (p + a_let xs p) wr)) (t : rT z tt xs) (hp : p ≤ xs.length) {c s : Nat} (hc : 2 ≤ c) (hs : 146 ≤ s) {K : Option Nat → hm_T → hz_T → Prop} (hK : ∀ (h1 : hm_T) (z1 : hz_T) (t1 : Nat), h1 y = some (r10 tt (p + a_let xs p) (if a_let xs p = 0 then nI p else wr)) → hm_mo h h1 (fun b => b = y) → hz_mo z z1 → (∃ u, z1 t1 = some (u, (xs.drop p).take (a_let xs p))) → K (some t1) h1 z1) : w_TextReader_readName10_43 dA y K (nI p) c s h z := by
  have hl := t.2.1
  have h6 := (a_let_small (xs := xs) (p := p)).1
  unfold w_TextReader_readName10_43
  refine cg_I_of R rfl ?_
  by_cases q : a_let xs p = 0
  · refine if_yes (by rw [q]; rfl) (cg_I_of R rfl (cg_c_of R (ro_failAt R (fun h1 R1 M1 => ro_name60 R1 t hp hc hs (fun h2 z2 t2 M2 Mz2 k => ?_)))))
    refine hK h2 z2 t2 ?_ (M1.trans (M2.weak (fun _ w => w.elim))) Mz2 k
    rw [M2 _ _ R1 id, if_pos q, q]
    rfl
  · refine if_no (fun w => ?_) (ro_name60 R t hp hc hs (fun h2 z2 t2 M2 Mz2 k => hK h2 z2 t2 ?_ (M2.weak (fun _ w => w.elim)) Mz2 k))
    · have := (nI_eq (by omega) (by omega)).mp w
      omega
    · rw [if_neg q]; exact M2 _ _ R id
theorem ro_nameL (t : rT z tt xs) (hp : p ≤ xs.length) {c s : Nat} (hc : 2 ≤ c) (hs : 146 ≤ s) {K : Option Nat → hm_T → hz_T → Prop} : ∀ (r fu k : Nat) (h : hm_T), k + r = 6 → r < fu → a_let xs p = (match mp_fst (fun k => !a_small (xs.getD (p + k) 0)) r k with | some j => j | none => 6) → h y = some (r10 tt (p + k) wr) → (∀ (h1 : hm_T) (z1 : hz_T) (t1 : Nat), h1 y = some (r10 tt (p + a_let xs p) (if a_let xs p = 0 then nI p else wr)) → hm_mo h h1 (fun b => b = y) → hz_mo z z1 → (∃ u, z1 t1 = some (u, (xs.drop p).take (a_let xs p))) → K (some t1) h1 z1) → w_TextReader_readName10_5 dA y K fu (nI p) c s h z := by
  have hl := t.2.1
  intro r
  induction r with
  | zero =>
    intro fu k h hk hr ha R hK
    obtain ⟨fu, rfl⟩ : ∃ f, fu = f + 1 := ⟨fu - 1, by omega⟩
    obtain rfl : k = 6 := by omega
    have ha6 : a_let xs p = 6 := ha
    unfold w_TextReader_readName10_5
    refine cg_I_of R rfl (if_yes ?_ (ro_name43 (by rw [ha6]; exact R) t hp hc hs hK))
    rw [nI_sub (by omega), Nat.add_sub_cancel_left]
    exact nI_le (a := 6) (Nat.le_refl _) (by decide)
  | succ r ih =>
    intro fu k h hk hr ha R hK
    obtain ⟨fu, rfl⟩ : ∃ f, fu = f + 1 := ⟨fu - 1, by omega⟩
    have hcl := getD_lt t.2.2 (p + k)
    unfold w_TextReader_readName10_5
    refine cg_I_of R rfl (if_no ?_ (cg_I_of R rfl (cg_c_of R (ro_seen R t (by omega) (cp_small hcl ?_)))))
    · rw [nI_sub (by omega), Nat.add_sub_cancel_left]
      exact nI_ge (b := 6) (by omega) (by decide)
    · cases q : a_small (xs.getD (p + k) 0) with
      | false =>
        rw [if_neg (show ¬ false = true by decide)]
        simp only [mp_fst, q, Bool.not_false, if_true] at ha
        exact if_yes rfl (ro_name43 (by rw [ha]; exact R) t hp hc hs hK)
      | true =>
        rw [if_pos (show true = true from rfl)]
        simp only [mp_fst, q, Bool.not_true, Bool.false_eq_true, if_false] at ha
        refine if_no (by decide) (cg_I_of R rfl (cg_p_of R (show 1 < 3 by decide) ?_))
        rw [nI_1]
        exact ih fu (k + 1) _ (by omega) (by omega) ha hm_s (fun h1 z1 t1 k1 k2 k3 k4 => hK h1 z1 t1 k1 (hm_mo.trans (Y := fun b => b = y) (hm_mo.u rfl) k2) k3 k4)
theorem ro_name (R : h y = some (r10 tt p wr)) (t : rT z tt xs) (hp : p ≤ xs.length) {c s : Nat} (hc : 2 ≤ c) (hs : 146 ≤ s) {K : Option Nat → hm_T → hz_T → Prop} (hK : ∀ (h1 : hm_T) (z1 : hz_T) (t1 : Nat), h1 y = some (r10 tt (p + a_let xs p) (if a_let xs p = 0 then nI p else wr)) → hm_mo h h1 (fun b => b = y) → hz_mo z z1 → (∃ u, z1 t1 = some (u, (xs.drop p).take (a_let xs p))) → K (some t1) h1 z1) : w_TextReader_readName10 dA y c s K h z := by
  unfold w_TextReader_readName10
  exact cg_I_of R rfl (ro_nameL t hp hc hs 6 mF 0 h (by omega) (by unfold mF; omega) rfl R hK)
end QU1
-- paths in the class: what stands in its objects
/-- a row of objects at rs, each with its cells in a stretch of L -/
def pl {α : Type} (R : List Nat → Nat → α → Prop) : List Nat → List Nat → List α → Prop
  | L, [], [] => L = []
  | L, r :: rs, x :: xs => ∃ L1 L2, L = L1 ++ L2 ∧ R L1 r x ∧ pl R L2 rs xs
  | _, _, _ => False
theorem pl.imp {α : Type} {R R2 : List Nat → Nat → α → Prop} : ∀ (xs : List α) (rs L : List Nat), (∀ L1 r x, (∀ b ∈ L1, b ∈ L) → R L1 r x → R2 L1 r x) → pl R L rs xs → pl R2 L rs xs := by
  intro xs
  induction xs with
  | nil =>
    intro rs L _ h
    cases rs with
    | nil => exact h
    | cons r rs => exact h.elim
  | cons x xs ih =>
    intro rs L i h
    cases rs with
    | nil => exact h.elim
    | cons r rs =>
      obtain ⟨L1, L2, e, h1, h2⟩ := h
      exact ⟨L1, L2, e, i L1 r x (fun b hb => by rw [e]; exact List.mem_append_left _ hb) h1, ih rs L2 (fun L3 r3 x3 hb => i L3 r3 x3 (fun b hb3 => by rw [e]; exact List.mem_append_right _ (hb b hb3))) h2⟩
theorem pl.snoc {α : Type} {R : List Nat → Nat → α → Prop} {L1 : List Nat} {r : Nat} {x : α} (k : R L1 r x) : ∀ (xs : List α) (rs L : List Nat), pl R L rs xs → pl R (L ++ L1) (rs ++ [r]) (xs ++ [x]) := by
  intro xs
  induction xs with
  | nil =>
    intro rs L h
    cases rs with
    | nil =>
      have e : L = [] := h
      subst e
      exact ⟨L1, [], by simp, k, rfl⟩
    | cons r rs => exact h.elim
  | cons y xs ih =>
    intro rs L h
    cases rs with
    | nil => exact h.elim
    | cons r9 rs =>
      obtain ⟨M1, M2, e, h1, h2⟩ := h
      exact ⟨M1, M2 ++ L1, by rw [e, List.append_assoc], h1, ih rs M2 h2⟩
theorem pl.len {α : Type} {R : List Nat → Nat → α → Prop} : ∀ (xs : List α) (rs L : List Nat), pl R L rs xs → rs.length = xs.length := by
  intro xs
  induction xs with
  | nil =>
    intro rs L h
    cases rs with
    | nil => rfl
    | cons r rs => exact h.elim
  | cons x xs ih =>
    intro rs L h
    cases rs with
    | nil => exact h.elim
    | cons r rs =>
      obtain ⟨L1, L2, e, h1, h2⟩ := h
      simp [ih rs L2 h2]
/-- what each cell of a row keeps -/
theorem pl.mem {α : Type} {R : List Nat → Nat → α → Prop} {Q : Nat → Prop} (k : ∀ L r x, R L r x → ∀ b ∈ L, Q b) : ∀ (xs : List α) (rs L : List Nat), pl R L rs xs → ∀ b ∈ L, Q b := by
  intro xs
  induction xs with
  | nil =>
    intro rs L h b hb
    cases rs with
    | nil => rw [show L = [] from h] at hb; cases hb
    | cons r rs => exact h.elim
  | cons x xs ih =>
    intro rs L h b hb
    cases rs with
    | nil => exact h.elim
    | cons r rs =>
      obtain ⟨L1, L2, e, h1, h2⟩ := h
      rw [e] at hb
      rcases List.mem_append.mp hb with w | w
      · exact k _ _ _ h1 b w
      · exact ih rs L2 h2 b w
/-- what each object of a row keeps -/
theorem pl.refs {α : Type} {R : List Nat → Nat → α → Prop} {Q : Nat → Prop} (k : ∀ L r x, R L r x → Q r) : ∀ (xs : List α) (rs L : List Nat), pl R L rs xs → ∀ i, i < rs.length → Q (rs.getD i 0) := by
  intro xs
  induction xs with
  | nil =>
    intro rs L h i hi
    cases rs with
    | nil => exact absurd hi (Nat.not_lt_zero _)
    | cons r rs => exact h.elim
  | cons x xs ih =>
    intro rs L h i hi
    cases rs with
    | nil => exact h.elim
    | cons r rs =>
      obtain ⟨L1, L2, e, h1, h2⟩ := h
      cases i with
      | zero => exact k _ _ _ h1
      | succ i => exact ih rs L2 h2 i (by simp at hi; omega)
/-- the sign of an axis, of a sort -/
def q_axc (a : Nat) : Nat := if a = 1 then 68 else if a = 2 then 69 else if a = 3 then 80 else if a = 4 then 65 else if a = 5 then 66 else if a = 6 then 83 else if a = 7 then 78 else if a = 8 then 76 else if a = 9 then 70 else if a = 10 then 82 else 67
def q_sgc (a : Nat) : Nat := if a = 1 then 42 else if a = 2 then 35 else if a = 3 then 37 else if a = 4 then 46 else 110
def q_prc1 (k : Nat) : Nat := if k = 0 then 49 else if k = 1 then 36 else if k = 2 ∨ k = 3 then 64 else 47
def q_cmc (k : Nat) : Nat := if k = 3 ∨ k = 5 then 61 else if k = 6 then 126 else 32
/-- a list of objects, its cells in F -/
def jF (dA : Nat → ClassId) (h : hm_T) (F : Nat → Prop) (al : Nat) (rs : List Nat) : Prop := ∃ d, ja dA h al d rs ∧ F al ∧ (rs ≠ [] → F d)
/-- what a step is made of -/
abbrev sT (α : Type) : Type := Nat × Nat × List Nat × List α
section QU2
variable (dA : Nat → ClassId) (h : hm_T) (z : hz_T) (F : Nat → Prop) (kf : Nat → List Nat → Int64)
def sP {α : Type} (R : List Nat → Nat → α → Prop) (L : List Nat) (c : Nat) (s : sT α) : Prop := ∃ (nm al u : Nat) (rs L2 : List Nat), L = c :: L2 ∧ F c ∧ h c = some (.inr (12, [.int (nI (q_axc s.1)), .int (nI (q_sgc s.2.1)), .ref nm, .ref al, .long (kf s.2.1 s.2.2.1)])) ∧ z nm = some (u, s.2.2.1) ∧ jF dA h F al rs ∧ pl R L2 rs s.2.2.2
def tP {α : Type} (R : List Nat → Nat → α → Prop) (L : List Nat) (c : Nat) (t : Bool × List (sT α)) : Prop := ∃ (al : Nat) (rs : List Nat), F c ∧ h c = some (.inr (11, [.int (bI t.1), .ref al])) ∧ jF dA h F al rs ∧ pl (sP dA h z F kf R) L rs t.2
def pP (hf : (N : Nat) → qPr N → Int64) : (N : Nat) → List Nat → Nat → qPr N → Prop
  | 0, _, _, _ => False
  | N + 1, L, c, pr => ∃ (nm st u v : Nat) (po : Option Nat) (L2 : List Nat), L = c :: L2 ∧ F c ∧ h c = some (.inr (13, [.int (nI (q_prc1 pr.2.1)), .int (bI pr.1), .int (nI pr.2.2.1), .ref nm, va_rf po, .int (nI (q_cmc pr.2.1)), .ref st, .long (hf (N + 1) pr)])) ∧ z nm = some (u, pr.2.2.2.1) ∧ z st = some (v, pr.2.2.2.2.1) ∧ (pr.2.1 < 4 → po = none ∧ L2 = [] ∧ pr.2.2.2.2.2.2 = []) ∧ (4 ≤ pr.2.1 → ∃ pc, po = some pc ∧ tP dA h z F kf (pP hf N) L2 pc (pr.2.2.2.2.2.1, pr.2.2.2.2.2.2))
end QU2
section QU2B
variable {dA : Nat → ClassId} {h h1 : hm_T} {z z1 : hz_T} {F F2 Y : Nat → Prop} {kf : Nat → List Nat → Int64}
/-- an object that can be prepared -/
def c23 (h : hm_T) (b : Nat) : Prop := ∃ fs, h b = some (.inr (12, fs)) ∨ h b = some (.inr (13, fs))
theorem c23.jo {b : Nat} (c : c23 h b) : jo h b := by
  obtain ⟨fs, c | c⟩ := c
  · exact ⟨12, fs, c, Or.inr (Or.inr (Or.inl rfl))⟩
  · exact ⟨13, fs, c, Or.inr (Or.inr (Or.inr rfl))⟩
theorem jF.mo {al : Nat} {rs : List Nat} (j : jF dA h F al rs) (M : hm_mo h h1 Y) (hF : ∀ b e, h b = some e → F b → F2 b) (hY : ∀ b, F b → Y b → c23 h b) : jF dA h1 F2 al rs := by
  obtain ⟨d, j, f1, f2⟩ := j
  obtain ⟨mo, c1, c2⟩ := id j
  refine ⟨d, j.mo M (fun w => ?_) (fun e w => ?_), hF _ _ c1 f1, fun w => ?_⟩
  · obtain ⟨fs, c | c⟩ := hY _ f1 w <;> (rw [c1] at c; cases c)
  · rcases c2 with ⟨e2, _⟩ | ⟨_, n, f, c3, _⟩
    · exact e e2
    · obtain ⟨fs, c | c⟩ := hY _ (f2 e) w <;> (rw [c3] at c; cases c)
  · rcases c2 with ⟨e2, _⟩ | ⟨_, n, f, c3, _⟩
    · exact absurd e2 w
    · exact hF _ _ c3 (f2 w)
/-- how a picture of an object goes over from one heap to another -/
def mvR {α : Type} (h h1 : hm_T) (z z1 : hz_T) (F F2 Y : Nat → Prop) (R R1 : List Nat → Nat → α → Prop) : Prop := ∀ L c x, (∀ b ∈ L, F b → ¬ Y b) → R L c x → R1 L c x
theorem sP.mo {α : Type} {R R1 : List Nat → Nat → α → Prop} (M : hm_mo h h1 Y) (Z : hz_mo z z1) (hF : ∀ b e, h b = some e → F b → F2 b) (hY : ∀ b, F b → Y b → c23 h b) (k : mvR h h1 z z1 F F2 Y R R1) : mvR h h1 z z1 F F2 Y (sP dA h z F kf R) (sP dA h1 z1 F2 kf R1) := by
  intro L c s hL ⟨nm, al, u, rs, L2, e, f, c1, c2, c3, c4⟩
  refine ⟨nm, al, u, rs, L2, e, hF _ _ c1 f, M _ _ c1 (hL c (by rw [e]; exact List.mem_cons_self) f), Z _ _ c2, c3.mo M hF hY, pl.imp _ _ _ (fun L1 r x hb => k L1 r x (fun b hb1 => hL b (by rw [e]; exact List.mem_cons_of_mem _ (hb b hb1)))) c4⟩
theorem tP.mo {α : Type} {R R1 : List Nat → Nat → α → Prop} (M : hm_mo h h1 Y) (Z : hz_mo z z1) (hF : ∀ b e, h b = some e → F b → F2 b) (hY : ∀ b, F b → Y b → c23 h b) (k : mvR h h1 z z1 F F2 Y R R1) : mvR h h1 z z1 F F2 Y (tP dA h z F kf R) (tP dA h1 z1 F2 kf R1) := by
  intro L c s hL ⟨al, rs, f, c1, c3, c4⟩
  refine ⟨al, rs, hF _ _ c1 f, M _ _ c1 (fun w => ?_), c3.mo M hF hY, pl.imp _ _ _ (fun L1 r x hb => sP.mo M Z hF hY k L1 r x (fun b hb1 => hL b (hb b hb1))) c4⟩
  obtain ⟨fs, c9 | c9⟩ := hY _ f w <;> (rw [c1] at c9; cases c9)
theorem pP.mo {hf : (N : Nat) → qPr N → Int64} (M : hm_mo h h1 Y) (Z : hz_mo z z1) (hF : ∀ b e, h b = some e → F b → F2 b) (hY : ∀ b, F b → Y b → c23 h b) : ∀ N, mvR h h1 z z1 F F2 Y (pP dA h z F kf hf N) (pP dA h1 z1 F2 kf hf N) := by
  intro N
  induction N with
  | zero => intro L c x _ k; exact k.elim
  | succ N ih =>
    intro L c x hL ⟨nm, st, u, v, po, L2, e, f, c1, c2, c3, c4, c5⟩
    refine ⟨nm, st, u, v, po, L2, e, hF _ _ c1 f, M _ _ c1 (hL c (by rw [e]; exact List.mem_cons_self) f), Z _ _ c2, Z _ _ c3, c4, fun w => ?_⟩
    obtain ⟨pc, e1, k⟩ := c5 w
    exact ⟨pc, e1, tP.mo M Z hF hY ih L2 pc _ (fun b hb => hL b (by rw [e]; exact List.mem_cons_of_mem _ hb)) k⟩
theorem sP.all {α : Type} {R : List Nat → Nat → α → Prop} (k : ∀ L c x, R L c x → ∀ b ∈ L, F b ∧ c23 h b) {L : List Nat} {c : Nat} {s : sT α} (p : sP dA h z F kf R L c s) : ∀ b ∈ L, F b ∧ c23 h b := by
  obtain ⟨nm, al, u, rs, L2, e, f, c1, c2, c3, c4⟩ := p
  intro b hb
  rw [e] at hb
  rcases List.mem_cons.mp hb with w | w
  · rw [w]; exact ⟨f, _, Or.inl c1⟩
  · exact pl.mem k _ _ _ c4 b w
theorem tP.all {α : Type} {R : List Nat → Nat → α → Prop} (k : ∀ L c x, R L c x → ∀ b ∈ L, F b ∧ c23 h b) {L : List Nat} {c : Nat} {s : Bool × List (sT α)} (p : tP dA h z F kf R L c s) : ∀ b ∈ L, F b ∧ c23 h b := by
  obtain ⟨al, rs, f, c1, c3, c4⟩ := p
  exact pl.mem (fun L c x => sP.all k) _ _ _ c4
theorem pP.all {hf : (N : Nat) → qPr N → Int64} : ∀ N (L : List Nat) (c : Nat) (x : qPr N), pP dA h z F kf hf N L c x → ∀ b ∈ L, F b ∧ c23 h b := by
  intro N
  induction N with
  | zero => intro L c x k; exact k.elim
  | succ N ih =>
    intro L c x ⟨nm, st, u, v, po, L2, e, f, c1, c2, c3, c4, c5⟩ b hb
    rw [e] at hb
    rcases List.mem_cons.mp hb with w | w
    · rw [w]; exact ⟨f, _, Or.inr c1⟩
    · rcases Nat.lt_or_ge x.2.1 4 with q | q
      · rw [(c4 q).2.1] at w; cases w
      · obtain ⟨pc, e1, k⟩ := c5 q
        exact tP.all ih k b w
theorem sP.c23 {α : Type} {R : List Nat → Nat → α → Prop} {L : List Nat} {c : Nat} {s : sT α} (p : sP dA h z F kf R L c s) : c23 h c := by
  obtain ⟨nm, al, u, rs, L2, e, f, c1, c2, c3, c4⟩ := p
  exact ⟨_, Or.inl c1⟩
theorem pP.c23 {hf : (N : Nat) → qPr N → Int64} {N : Nat} {L : List Nat} {c : Nat} {x : qPr N} (p : pP dA h z F kf hf N L c x) : c23 h c := by
  cases N with
  | zero => exact p.elim
  | succ N =>
    obtain ⟨nm, st, u, v, po, L2, e, f, c1, c2, c3, c4, c5⟩ := p
    exact ⟨_, Or.inr c1⟩
/-- what a picture of objects keeps to -/
def gR {α : Type} (R : hm_T → hz_T → (Nat → Prop) → List Nat → Nat → α → Prop) : Prop := (∀ (h h1 : hm_T) (z z1 : hz_T) (F F2 Y : Nat → Prop), hm_mo h h1 Y → hz_mo z z1 → (∀ b e, h b = some e → F b → F2 b) → (∀ b, F b → Y b → c23 h b) → mvR h h1 z z1 F F2 Y (R h z F) (R h1 z1 F2)) ∧ (∀ (h : hm_T) (z : hz_T) (F : Nat → Prop) (L : List Nat) (c : Nat) (x : α), R h z F L c x → ∀ b ∈ L, F b ∧ c23 h b) ∧ ∀ (h : hm_T) (z : hz_T) (F : Nat → Prop) (L : List Nat) (c : Nat) (x : α), R h z F L c x → c23 h c
theorem gR.mo {α : Type} {R : hm_T → hz_T → (Nat → Prop) → List Nat → Nat → α → Prop} (g : gR R) {h h1 : hm_T} {z z1 : hz_T} {F F2 Y : Nat → Prop} : hm_mo h h1 Y → hz_mo z z1 → (∀ b e, h b = some e → F b → F2 b) → (∀ b, F b → Y b → c23 h b) → mvR h h1 z z1 F F2 Y (R h z F) (R h1 z1 F2) := g.1 h h1 z z1 F F2 Y
theorem gR.all {α : Type} {R : hm_T → hz_T → (Nat → Prop) → List Nat → Nat → α → Prop} (g : gR R) {h : hm_T} {z : hz_T} {F : Nat → Prop} (L : List Nat) (c : Nat) (x : α) : R h z F L c x → ∀ b ∈ L, F b ∧ c23 h b := g.2.1 h z F L c x
theorem gR.cc {α : Type} {R : hm_T → hz_T → (Nat → Prop) → List Nat → Nat → α → Prop} (g : gR R) {h : hm_T} {z : hz_T} {F : Nat → Prop} (L : List Nat) (c : Nat) (x : α) : R h z F L c x → c23 h c := g.2.2 h z F L c x
theorem gR_P {hf : (N : Nat) → qPr N → Int64} (N : Nat) : gR (fun h z F => pP dA h z F kf hf N) := ⟨fun _ _ _ _ _ _ _ M Z hF hY => pP.mo M Z hF hY N, fun _ _ _ => pP.all N, fun _ _ _ _ _ _ k => pP.c23 k⟩
theorem gR_S {α : Type} {R : hm_T → hz_T → (Nat → Prop) → List Nat → Nat → α → Prop} (g : gR R) : gR (fun h z F => sP dA h z F kf (R h z F)) := ⟨fun _ _ _ _ _ _ _ M Z hF hY => sP.mo M Z hF hY (g.mo M Z hF hY), fun _ _ _ _ _ _ k => sP.all g.all k, fun _ _ _ _ _ _ k => sP.c23 k⟩
end QU2B
-- paths in the class: the small readings
def sgA : List Nat := [68, 69, 80, 65, 66, 83, 78, 76, 70, 82]
def sgK : List Nat := [42, 35, 37, 46]
theorem qax_dec : ∀ c : Fin 128, decide ((if c.1 ∈ sgA then nI (sgA.idxOf c.1) else -1) < (0 : Int32)) = decide (q_axs c.1 = 0) := by decide +kernel
theorem qsg_dec : ∀ c : Fin 128, decide ((if c.1 ∈ sgK then nI (sgK.idxOf c.1) else -1) < (0 : Int32)) = decide (q_sgn c.1 = 0) := by decide +kernel
theorem q_axc_s : ∀ c : Fin 128, q_axs c.1 ≠ 0 → q_axc (q_axs c.1) = c.1 := by decide +kernel
theorem q_sgc_s : ∀ c : Fin 128, q_sgn c.1 ≠ 0 → q_sgc (q_sgn c.1) = c.1 := by decide +kernel
theorem q_sgn_small : ∀ c : Fin 128, a_small c.1 = true → q_sgn c.1 = 0 := by decide +kernel
theorem qdig2 : ∀ (c d : Fin 128), 48 ≤ c.1 → 48 ≤ d.1 → ((10 * ((10 * (0 : Int32) + nI c.1) - 48) + nI d.1) - 48 : Int32) = nI (10 * (c.1 - 48) + (d.1 - 48)) := by decide +kernel
theorem qdig1 : ∀ (c : Fin 128), 48 ≤ c.1 → ((10 * (0 : Int32) + nI c.1) - 48 : Int32) = nI (c.1 - 48) := by decide +kernel
section QU3
variable {dA : Nat → ClassId} {h : hm_T} {z : hz_T} {y tt p : Nat} {wr : Int32} {xs : List Nat}
theorem ro_axis {c : Nat} (hc : c < 128) {K : Int32 → hm_T → hz_T → Prop} (k0 : q_axs c = 0 → K 0 h z) (k1 : q_axs c ≠ 0 → K 1 h z) : w_PathReader_isAxis dA (nI c) K h z := by
  have d := qax_dec ⟨c, hc⟩
  unfold w_PathReader_isAxis
  intro a u ha
  refine ⟨u, sgA, c, ha, rfl, by decide, by decide, hc, ?_⟩
  by_cases q : q_axs c = 0
  · exact if_yes (of_decide_eq_true (d.trans (decide_eq_true q))) (k0 q)
  · exact if_no (of_decide_eq_false (d.trans (decide_eq_false q))) (k1 q)
theorem ro_kind {c : Nat} (hc : c < 128) {K : Int32 → hm_T → hz_T → Prop} (k0 : q_sgn c = 0 → K 0 h z) (k1 : q_sgn c ≠ 0 → K 1 h z) : w_PathReader_isKindSign dA (nI c) K h z := by
  have d := qsg_dec ⟨c, hc⟩
  unfold w_PathReader_isKindSign
  intro a u ha
  refine ⟨u, sgK, c, ha, rfl, by decide, by decide, hc, ?_⟩
  by_cases q : q_sgn c = 0
  · exact if_yes (of_decide_eq_true (d.trans (decide_eq_true q))) (k0 q)
  · exact if_no (of_decide_eq_false (d.trans (decide_eq_false q))) (k1 q)
theorem ro_dig {c : Nat} (hc : c < 128) {K : Int32 → hm_T → hz_T → Prop} (k0 : a_dig c = false → K 0 h z) (k1 : a_dig c = true → K 1 h z) : w_PathReader_isDigit dA (nI c) K h z := by
  unfold w_PathReader_isDigit w_PathReader_isDigit_16
  by_cases q1 : c < 48
  · exact if_yes (nI_lt (b := 48) q1 (by decide)) (k0 (by simp [a_dig]; omega))
  refine if_no (nI_nlt (b := 48) (by omega) (by omega)) ?_
  by_cases q2 : 57 < c
  · exact if_yes (nI_lt (a := 57) q2 (by omega)) (k0 (by simp [a_dig]; omega))
  · exact if_no (nI_nlt (a := 57) (by omega) (by decide)) (k1 (by simp [a_dig]; omega))
theorem ro_pos (R : h y = some (r10 tt p wr)) (t : rT z tt xs) (hp : p ≤ xs.length) (hd : a_dig (xs.getD p 0) = true) {K : Int32 → hm_T → hz_T → Prop}
    (k2 : a_dig (xs.getD (p + 1) 0) = true → ∀ h1, h1 y = some (r10 tt (p + 2) wr) → hm_mo h h1 (fun b => b = y) → K (nI (10 * (xs.getD p 0 - 48) + (xs.getD (p + 1) 0 - 48))) h1 z)
    (k1 : a_dig (xs.getD (p + 1) 0) = false → ∀ h1, h1 y = some (r10 tt (p + 1) wr) → hm_mo h h1 (fun b => b = y) → K (nI (xs.getD p 0 - 48)) h1 z) : w_PathReader_readPosition dA y K h z := by
  have hl := t.2.1
  have hc1 := getD_lt t.2.2 p
  have hc2 := getD_lt t.2.2 (p + 1)
  have d1 : 48 ≤ xs.getD p 0 := by simp [a_dig] at hd; simpa using hd.1
  unfold w_PathReader_readPosition
  have : mF = 5997 + 1 + 1 + 1 := rfl
  rw [this]
  unfold w_PathReader_readPosition_4 w_PathReader_readPosition_56
  refine if_no (by decide) (cg_I_of R rfl (cg_c_of R (ro_seen R t (by omega) (ro_dig hc1 (fun w => by rw [hd] at w; cases w) (fun _ => if_no (by decide) (cg_I_of R rfl (cg_c_of R (ro_seen R t (by omega) (cg_I_of R rfl (cg_p_of R (show 1 < 3 by decide) ?_))))))))))
  rw [nI_1]
  have R1 : (hm_u h y (.inr (10, [Value.ref tt, .int (nI p), .int wr].set 1 (.int (nI (p + 1))))) : hm_T) y = some (r10 tt (p + 1) wr) := hm_s
  have M1 : hm_mo h (hm_u h y (.inr (10, [Value.ref tt, .int (nI p), .int wr].set 1 (.int (nI (p + 1)))))) (fun b => b = y) := hm_mo.u rfl
  unfold w_PathReader_readPosition_4 w_PathReader_readPosition_56
  refine if_no (by decide) (cg_I_of R1 rfl (cg_c_of R1 (ro_seen R1 t (by omega) (ro_dig hc2 (fun w => ?_) (fun w => ?_)))))
  · refine if_yes rfl ?_
    rw [qdig1 ⟨_, hc1⟩ d1]
    exact k1 w _ R1 M1
  · refine if_no (by decide) (cg_I_of R1 rfl (cg_c_of R1 (ro_seen R1 t (by omega) (cg_I_of R1 rfl (cg_p_of R1 (show 1 < 3 by decide) ?_)))))
    have d2 : 48 ≤ xs.getD (p + 1) 0 := by simp [a_dig] at w; simpa using w.1
    rw [nI_1, qdig2 ⟨_, hc1⟩ ⟨_, hc2⟩ d1 d2]
    unfold w_PathReader_readPosition_4 w_PathReader_readPosition_56
    exact if_yes (by decide) (k2 w _ hm_s (M1.trans (hm_mo.u rfl)))
/-- the end of a comparison: the string is taken, and its quote -/
theorem ro_cmp100 {x q st : Nat} {fs : List Value} (R : h y = some (r10 tt q (-1))) (X : h x = some (.inr (13, fs))) (hfs : fs.length = 8) (t : rT z tt xs) (h1 : st ≤ q) (h2 : q ≤ xs.length) {c s : Nat} (hc : 2 ≤ c) (hs : 146 ≤ s) {K : hm_T → hz_T → Prop}
    (kok : xs.getD q 0 = 39 → ∀ (h1 : hm_T) (z1 : hz_T) (t1 : Nat), h1 y = some (r10 tt (q + 1) (-1)) → h1 x = some (.inr (13, fs.set 6 (.ref t1))) → (∃ u, z1 t1 = some (u, (xs.drop st).take (q - st))) → hm_mo h h1 (fun b => b = y ∨ b = x) → hz_mo z z1 → K h1 z1)
    (kerr : xs.getD q 0 ≠ 39 → ∀ (h1 : hm_T) (z1 : hz_T), h1 y = some (r10 tt q (nI q)) → (∃ fs1, h1 x = some (.inr (13, fs1))) → hm_mo h h1 (fun b => b = y ∨ b = x) → hz_mo z z1 → K h1 z1) : w_PathReader_readComparison_100 dA y K (some x) (nI st) c s h z := by
  have t0 := t
  obtain ⟨⟨u, hu⟩, hl, hcx⟩ := t
  have xy : y ≠ x := hm_ne R X rfl
  unfold w_PathReader_readComparison_100
  refine cg_R_ref R rfl (cg_I_of R rfl (cg_d_of (cg_k_of hc hs ⟨u, xs, st, q, hu, rfl, rfl, h1, h2, by omega, hcx, fun h3 z3 t3 u3 e1 e2 e3 => ?_⟩)))
  have M3 : hm_mo h h3 (fun b => b = y ∨ b = x) := fun b e hb _ => e2 b e hb
  refine cg_d_of (cg_p_of (e2 _ _ X) (by omega) ?_)
  have R4 : (hm_u h3 x (.inr (13, fs.set 6 (va_rf (some t3)))) : hm_T) y = some (r10 tt q (-1)) := by rw [hm_n xy]; exact e2 _ _ R
  have M4 : hm_mo h3 (hm_u h3 x (.inr (13, fs.set 6 (va_rf (some t3))))) (fun b => b = y ∨ b = x) := hm_mo.u (Or.inr rfl)
  refine cg_c_of R4 (ro_take (c := 39) R4 (t0.mo e3) (by omega) (by decide) (fun w h5 R5 M5 => ?_) (fun w h5 R5 M5 => ?_))
  · exact kok w h5 z3 t3 R5 (M5 _ _ hm_s (Ne.symm xy)) ⟨u3, e1⟩ ((M3.trans M4).trans (M5.weak (fun b w => Or.inl w))) e3
  · exact kerr w h5 z3 R5 ⟨_, M5 _ _ hm_s (Ne.symm xy)⟩ ((M3.trans M4).trans (M5.weak (fun b w => Or.inl w))) e3
theorem ro_cmpL {x st : Nat} {fs : List Value} (hfs : fs.length = 8) (t : rT z tt xs) {c s : Nat} (hc : 2 ≤ c) (hs : 146 ≤ s) {K : hm_T → hz_T → Prop} : ∀ (r fu q : Nat) (h : hm_T), q + r = xs.length → r < fu → st ≤ q → h y = some (r10 tt q (-1)) → h x = some (.inr (13, fs)) →
    (q_quo xs q < xs.length → ∀ (h1 : hm_T) (z1 : hz_T) (t1 : Nat), h1 y = some (r10 tt (q_quo xs q + 1) (-1)) → h1 x = some (.inr (13, fs.set 6 (.ref t1))) → (∃ u, z1 t1 = some (u, (xs.drop st).take (q_quo xs q - st))) → hm_mo h h1 (fun b => b = y ∨ b = x) → hz_mo z z1 → K h1 z1) →
    (xs.length ≤ q_quo xs q → ∀ (h1 : hm_T) (z1 : hz_T), h1 y = some (r10 tt xs.length (nI xs.length)) → (∃ fs1, h1 x = some (.inr (13, fs1))) → hm_mo h h1 (fun b => b = y ∨ b = x) → hz_mo z z1 → K h1 z1) → w_PathReader_readComparison_60 dA y K fu (some x) (nI st) c s h z := by
  have t0 := t
  obtain ⟨⟨u, hu⟩, hl, hcx⟩ := t
  intro r
  induction r with
  | zero =>
    intro fu q h h1 h2 h3 R X kok kerr
    obtain ⟨fu, rfl⟩ : ∃ f, fu = f + 1 := ⟨fu - 1, by omega⟩
    have e : q = xs.length := by omega
    subst e
    unfold w_PathReader_readComparison_60
    refine cg_I_of R rfl (cg_R_ref R rfl (cg_d_of ⟨u, xs, hu, if_yes (nI_le (Nat.le_refl _) (by omega)) (ro_cmp100 R X hfs t0 h3 (Nat.le_refl _) hc hs (fun w => ?_) (fun w => kerr (by rw [q_quo_at]; exact Nat.le_refl _)))⟩))
    rw [List.getD_eq_getElem?_getD, List.getElem?_eq_none (Nat.le_refl _)] at w
    cases w
  | succ r ih =>
    intro fu q h h1 h2 h3 R X kok kerr
    obtain ⟨fu, rfl⟩ : ∃ f, fu = f + 1 := ⟨fu - 1, by omega⟩
    have lc := getD_lt hcx q
    have xy : y ≠ x := hm_ne R X rfl
    rw [q_quo_step (by omega)] at kok kerr
    unfold w_PathReader_readComparison_60
    refine cg_I_of R rfl (cg_R_ref R rfl (cg_d_of ⟨u, xs, hu, if_no (nI_ge (by omega) (by omega)) (cg_I_of R rfl (cg_c_of R (ro_seen R t0 (by omega) ?_)))⟩))
    by_cases e : xs.getD q 0 = 39
    · rw [if_pos e] at kok kerr
      exact if_yes (by rw [e]; rfl) (ro_cmp100 R X hfs t0 h3 (by omega) hc hs (fun w => kok (by omega)) (fun w => absurd e w))
    · rw [if_neg e] at kok kerr
      refine if_no (fun w => e ((nI_eq (b := 39) (by omega) (by decide)).mp w)) (cg_I_of R rfl (cg_p_of R (show 1 < 3 by decide) ?_))
      rw [nI_1]
      have M : hm_mo h (hm_u h y (.inr (10, [Value.ref tt, .int (nI q), .int (-1)].set 1 (.int (nI (q + 1)))))) (fun b => b = y ∨ b = x) := hm_mo.u (Or.inl rfl)
      exact ih fu (q + 1) _ (by omega) (by omega) (by omega) hm_s (by rw [hm_n (Ne.symm xy)]; exact X) (fun w h4 z4 t4 k1 k2 k3 k4 => kok w h4 z4 t4 k1 k2 k3 (M.trans k4)) (fun w h4 z4 k1 k2 k3 => kerr w h4 z4 k1 k2 (M.trans k3))
theorem ro_cmpF {x e : Nat} (R : h y = some (r10 tt p (nI e))) (he : e < 2 ^ 31) {a c s : Nat} {K : hm_T → hz_T → Prop} (hK : K h z) : w_PathReader_readComparison dA y (some x) (some a) c s K h z := by
  unfold w_PathReader_readComparison
  exact cg_c_of R (ro_failed1 R he (if_no (by decide) hK))
theorem ro_cmp {x a u9 : Nat} {sg : List Nat} {fs : List Value} (R : h y = some (r10 tt p (-1))) (X : h x = some (.inr (13, fs))) (hfs : fs.length = 8) (t : rT z tt xs) (hp : p ≤ xs.length) (ha : z a = some (u9, sg)) (hsg : ∀ c ∈ sg, 0 < c ∧ c < 128) (hsl : sg.length < 100) {c s : Nat} (hc : 2 ≤ c) (hs : 146 ≤ s) {K : hm_T → hz_T → Prop} (k0 : xs.getD p 0 ∉ sg → K h z)
    (kok : xs.getD p 0 ∈ sg → ∀ q w, q_str xs (p + 1) = .inr (q, w) → ∀ (h1 : hm_T) (z1 : hz_T) (t1 : Nat), h1 y = some (r10 tt q (-1)) → h1 x = some (.inr (13, (fs.set 5 (.int (nI (xs.getD p 0)))).set 6 (.ref t1))) → (∃ u, z1 t1 = some (u, w)) → hm_mo h h1 (fun b => b = y ∨ b = x) → hz_mo z z1 → K h1 z1)
    (kerr : xs.getD p 0 ∈ sg → ∀ e, q_str xs (p + 1) = .inl e → ∀ (h1 : hm_T) (z1 : hz_T) (p1 : Nat), h1 y = some (r10 tt p1 (nI e)) → (∃ fs1, h1 x = some (.inr (13, fs1))) → hm_mo h h1 (fun b => b = y ∨ b = x) → hz_mo z z1 → K h1 z1) : w_PathReader_readComparison dA y (some x) (some a) c s K h z := by
  have hl := t.2.1
  have lc := getD_lt t.2.2 p
  have xy : y ≠ x := hm_ne R X rfl
  unfold w_PathReader_readComparison
  refine cg_c_of R (ro_failed0 R (if_yes rfl (cg_I_of R rfl (cg_c_of R (ro_seen R t (by omega) (cg_d_of ⟨u9, sg, _, ha, rfl, by omega, fun c hc => (hsg c hc).2, lc, ?_⟩))))))
  by_cases q : xs.getD p 0 ∈ sg
  · rw [if_pos q]
    have hpl : p < xs.length := by
      rcases Nat.lt_or_ge p xs.length with w | w
      · exact w
      · have := (hsg _ q).1
        rw [List.getD_eq_getElem?_getD, List.getElem?_eq_none w] at this
        exact absurd this (by decide)
    have hidx : sg.idxOf (xs.getD p 0) < 100 := Nat.lt_trans (List.idxOf_lt_length_of_mem q) hsl
    refine if_yes (nI_le (a := 0) (Nat.zero_le _) (by omega)) (cg_I_of R rfl (cg_c_of R (ro_seen R t (by omega) (cg_d_of (cg_ch_of lc (cg_p_of X (by omega) ?_))))))
    have R1 : (hm_u h x (.inr (13, fs.set 5 (.int (nI (xs.getD p 0))))) : hm_T) y = some (r10 tt p (-1)) := by rw [hm_n xy]; exact R
    refine cg_I_of R1 rfl (cg_p_of R1 (show 1 < 3 by decide) ?_)
    rw [nI_1]
    generalize hg : (hm_u (hm_u h x (.inr (13, fs.set 5 (.int (nI (xs.getD p 0))))) ) y (.inr (10, [Value.ref tt, .int (nI p), .int (-1)].set 1 (.int (nI (p + 1))))) : hm_T) = h2
    have R2 : h2 y = some (r10 tt (p + 1) (-1)) := by rw [← hg]; exact hm_s
    have X2 : h2 x = some (.inr (13, fs.set 5 (.int (nI (xs.getD p 0))))) := by rw [← hg, hm_n (Ne.symm xy)]; exact hm_s
    have M2 : hm_mo h h2 (fun b => b = y ∨ b = x) := by rw [← hg]; exact (hm_mo.u (Y := fun b => b = y ∨ b = x) (Or.inr rfl)).trans (hm_mo.u (Or.inl rfl))
    have eq := show q_str xs (p + 1) = (if xs.getD (p + 1) 0 ≠ 39 then .inl (p + 1) else if xs.length ≤ q_quo xs (p + 1 + 1) then .inl xs.length else .inr (q_quo xs (p + 1 + 1) + 1, (xs.drop (p + 1 + 1)).take (q_quo xs (p + 1 + 1) - (p + 1 + 1)))) from rfl
    refine cg_c_of R2 (ro_take (c := 39) R2 t (by omega) (by decide) (fun w h3 R3 M3 => ?_) (fun w h3 R3 M3 => ?_))
    · rw [if_neg (fun n => n w)] at eq
      have hp2 : p + 1 < xs.length := by
        rcases Nat.lt_or_ge (p + 1) xs.length with w2 | w2
        · exact w2
        · rw [List.getD_eq_getElem?_getD, List.getElem?_eq_none w2] at w
          cases w
      have X3 := M3 _ _ X2 (Ne.symm xy)
      have M13 := M2.trans (M3.weak (fun b w => Or.inl w))
      refine if_no (by decide) (cg_I_of R3 rfl (ro_cmpL (by rw [List.length_set]; exact hfs) t hc hs (xs.length - (p + 2)) mF (p + 1 + 1) h3 (by omega) (by unfold mF; omega) (Nat.le_refl _) R3 X3 (fun w2 h4 z4 t4 k1 k2 k3 k4 k5 => ?_) (fun w2 h4 z4 k1 k2 k3 k4 => ?_)))
      · rw [if_neg (by omega)] at eq
        exact kok q _ _ eq h4 z4 t4 k1 k2 k3 (M13.trans k4) k5
      · rw [if_pos w2] at eq
        exact kerr q _ eq h4 z4 _ k1 k2 (M13.trans k3) k4
    · rw [if_pos w] at eq
      exact if_yes rfl (kerr q _ eq h3 z _ R3 ⟨_, M3 _ _ X2 (Ne.symm xy)⟩ (M2.trans (M3.weak (fun b w => Or.inl w))) hz_mo.refl)
  · rw [if_neg q]
    exact if_no (by decide) (k0 q)
end QU3
-- paths in the class: lists that grow while one reads
section QU4
variable {dA : Nat → ClassId} {α : Type} {R : hm_T → hz_T → (Nat → Prop) → List Nat → Nat → α → Prop} {h0 h h1 : hm_T} {z z1 : hz_T} {y x al : Nat} {ex : va_E} {acc : List α}
/-- the cells of a row's objects: new since h0, and none of the row's own -/
def fE (h0 : hm_T) (x al d : Nat) (rs : List Nat) (b : Nat) : Prop := h0 b = none ∧ b ≠ x ∧ b ≠ al ∧ (rs ≠ [] → b ≠ d)
/-- an object x that is being read, its list al, what stands in it -/
def lst (dA : Nat → ClassId) (R : hm_T → hz_T → (Nat → Prop) → List Nat → Nat → α → Prop) (h0 h : hm_T) (z : hz_T) (y x al : Nat) (ex : va_E) (acc : List α) : Prop := ∃ (d : Nat) (rs L : List Nat), hm_mo h0 h (fun b => b = y) ∧ h0 y ≠ none ∧ h y ≠ none ∧ h0 x = none ∧ h0 al = none ∧ x ≠ al ∧ (rs ≠ [] → h0 d = none) ∧ h x = some ex ∧ (rs ≠ [] → x ≠ d) ∧ ja dA h al d rs ∧ pl (R h z (fE h0 x al d rs)) L rs acc ∧ L.Nodup
theorem mo_none {Y : Nat → Prop} (M : hm_mo h h1 Y) (hY : ∀ b, Y b → h1 b ≠ none) {b : Nat} (k : h1 b = none) : h b = none := by
  cases e : h b with
  | none => rfl
  | some v =>
    by_cases w : Y b
    · exact absurd k (hY b w)
    · rw [M _ _ e w] at k; cases k
theorem lst.mo (g : gR R) (l : lst dA R h0 h z y x al ex acc) (M : hm_mo h h1 (fun b => b = y)) (Z : hz_mo z z1) (hy : h1 y ≠ none) : lst dA R h0 h1 z1 y x al ex acc := by
  obtain ⟨d, rs, L, m, ny0, ny, nx, nal, xa, nd, cx, xd, j, p, nn⟩ := l
  have ne : ∀ b, h0 b = none → b ≠ y := fun b hb w => ny0 (by rw [← w]; exact hb)
  refine ⟨d, rs, L, m.trans M, ny0, hy, nx, nal, xa, nd, M _ _ cx (ne _ nx), xd, j.mo M (ne _ nal) (fun w => ne _ (nd w)), pl.imp _ _ _ (fun L1 r e hb k => g.mo M Z (fun b e _ f => f) (fun b f w => absurd w (ne b f.1)) L1 r e (fun b _ f => ne b f.1) k) p, nn⟩
theorem lst.add (g : gR R) (l : lst dA R h0 h z y x al ex acc) (hl : acc.length ≤ 130) (M : hm_mo h h1 (fun b => b = y)) (Z : hz_mo z z1) {ry : va_E} (hy : h1 y = some ry) {L1 : List Nat} {v : Nat} {e : α} (k : R h1 z1 (fun b => h b = none) L1 v e) (nn1 : L1.Nodup) {c s : Nat} (hc : 1 ≤ c) (hs : 200 ≤ s) {K : Int32 → hm_T → hz_T → Prop} (hK : ∀ h2, h2 y = some ry → lst dA R h0 h2 z1 y x al ex (acc ++ [e]) → K 1 h2 z1) : w_AL_add dA al (some v) c s K h1 z1 := by
  obtain ⟨d, rs, L, m9, ny0, nyh, nx, nal, xa, nd, cx9, xd, j9, p9, nn⟩ := l
  have ne : ∀ b, h0 b = none → b ≠ y := fun b hb w => ny0 (by rw [← w]; exact hb)
  have h0n : ∀ b, h b = none → h0 b = none := fun b hb => mo_none m9 (fun b w => by rw [w]; exact nyh) hb
  obtain ⟨mo9, cal9, cd9⟩ := id j9
  have ed : rs ≠ [] → ∃ a, h d = some a := fun w => by
    rcases cd9 with ⟨w9, _⟩ | ⟨_, n, f, c3, _⟩
    · exact absurd w9 w
    · exact ⟨_, c3⟩
  have kx : ∀ b, h b = none → b ≠ x ∧ b ≠ al ∧ (rs ≠ [] → b ≠ d) := fun b hb => ⟨fun w => (by rw [w, cx9] at hb; cases hb), fun w => (by rw [w, cal9] at hb; cases hb), fun w w2 => (by obtain ⟨a, ha⟩ := ed w; rw [w2, ha] at hb; cases hb)⟩
  have m := m9.trans M
  have cx := M _ _ cx9 (ne _ nx)
  have j := j9.mo M (ne _ nal) (fun w => ne _ (nd w))
  have p : pl (R h1 z1 (fE h0 x al d rs)) L rs acc := pl.imp _ _ _ (fun L1 r e hb k => g.mo M Z (fun b e _ f => f) (fun b f w => absurd w (ne b f.1)) L1 r e (fun b _ f => ne b f.1) k) p9
  have ny : h1 y ≠ none := by rw [hy]; simp
  have jv := (g.cc _ _ _ k).jo
  refine ja_add j (by rw [pl.len _ _ _ p]; exact hl) jv (pl.refs (Q := jo h1) (fun L r x k => (g.cc _ _ _ k).jo) _ _ _ p) hc hs (fun h2 d2 j2 hd2 M2 => ?_)
  have cal2 := id j2
  obtain ⟨mo2, cal2, cd2⟩ := cal2
  have yal : y ≠ al := Ne.symm (ne _ nal)
  have yd : rs ≠ [] → y ≠ d := fun w => Ne.symm (ne _ (nd w))
  have Y2 : ∀ b, (b = al ∨ (b = d ∧ rs ≠ [])) → h0 b = none := fun b w => w.elim (fun w => by rw [w]; exact nal) (fun w => by rw [w.1]; exact nd w.2)
  have hy2 : h2 y = some ry := M2 _ _ hy (fun w => w.elim yal (fun w => yd w.2 w.1))
  have m2 : hm_mo h0 h2 (fun b => b = y) := fun b e hb n => M2 _ _ (m _ _ hb n) (fun w => by rw [Y2 b w] at hb; cases hb)
  have nd2 : h0 d2 = none := by
    rcases hd2 with ⟨w1, w2⟩ | w
    · rw [w1]; exact nd w2
    · exact mo_none m (fun b w => by rw [w]; exact ny) w
  have xd2 : x ≠ d2 := by
    rcases hd2 with ⟨w1, w2⟩ | w
    · rw [w1]; exact xd w2
    · exact hm_nn cx w
  have cx2 := M2 _ _ cx (fun w => w.elim xa (fun w => xd w.2 w.1))
  have hFe : ∀ b e, h1 b = some e → fE h0 x al d rs b → fE h0 x al d2 (rs ++ [v]) b := fun b e hb f => ⟨f.1, f.2.1, f.2.2.1, fun _ w => by
    rcases hd2 with ⟨w1, w2⟩ | w3
    · exact f.2.2.2 w2 (by rw [w, w1])
    · rw [← w, hb] at w3; cases w3⟩
  have hYe : ∀ b, fE h0 x al d rs b → ¬ (b = al ∨ (b = d ∧ rs ≠ [])) := fun b f w => w.elim f.2.2.1 (fun w => f.2.2.2 w.2 w.1)
  have kE : R h1 z1 (fE h0 x al d rs) L1 v e := g.mo hm_mo.refl hz_mo.refl (fun b e _ f => ⟨h0n b f, kx b f⟩) (fun b f w => (w : False).elim) L1 v e (fun b _ f w => w) k
  have k2 : R h2 z1 (fE h0 x al d2 (rs ++ [v])) L1 v e := g.mo M2 hz_mo.refl hFe (fun b f w => absurd w (hYe b f)) L1 v e (fun b _ f => hYe b f) kE
  refine hK h2 hy2 ⟨d2, rs ++ [v], L ++ L1, m2, ny0, by rw [hy2]; simp, nx, nal, xa, fun _ => nd2, cx2, fun _ => xd2, j2, pl.snoc k2 _ _ _ (pl.imp _ _ _ (fun L3 r e hb k => g.mo M2 hz_mo.refl hFe (fun b f w => absurd w (hYe b f)) L3 r e (fun b _ f => hYe b f) k) p), ?_⟩
  refine List.nodup_append.mpr ⟨nn, nn1, fun a ha b hb w => ?_⟩
  subst w
  -- an old cell is there at h, a new one is not
  have hnew := (g.all _ _ _ k a hb).1
  have hold := pl.mem (Q := fun b => fE h0 x al d rs b ∧ c23 h b) (fun L c x k => g.all L c x k) _ _ _ p9 a
  obtain ⟨fs, w | w⟩ := (hold ha).2 <;> (rw [w] at hnew; cases hnew)
/-- an object that was read with an error goes into the list too -/
theorem lst.addE (g : gR R) (l : lst dA R h0 h z y x al ex acc) (hl : acc.length ≤ 130) (M : hm_mo h h1 (fun b => b = y)) (Z : hz_mo z z1) {ry : va_E} (hy : h1 y = some ry) {v : Nat} (jv : jo h1 v) {c s : Nat} (hc : 1 ≤ c) (hs : 200 ≤ s) {K : Int32 → hm_T → hz_T → Prop} (hK : ∀ h2, h2 y = some ry → hm_mo h0 h2 (fun b => b = y) → h2 x = some ex → K 1 h2 z1) : w_AL_add dA al (some v) c s K h1 z1 := by
  obtain ⟨d, rs, L, m9, ny0, nyh, nx, nal, xa, nd, cx9, xd, j9, p9, nn⟩ := l
  have ne : ∀ b, h0 b = none → b ≠ y := fun b hb w => ny0 (by rw [← w]; exact hb)
  have m := m9.trans M
  have cx := M _ _ cx9 (ne _ nx)
  have j := j9.mo M (ne _ nal) (fun w => ne _ (nd w))
  have p : pl (R h1 z1 (fE h0 x al d rs)) L rs acc := pl.imp _ _ _ (fun L1 r e hb k => g.mo M Z (fun b e _ f => f) (fun b f w => absurd w (ne b f.1)) L1 r e (fun b _ f => ne b f.1) k) p9
  refine ja_add j (by rw [pl.len _ _ _ p9]; exact hl) jv (pl.refs (Q := jo h1) (fun L r x k => (g.cc _ _ _ k).jo) _ _ _ p) hc hs (fun h2 d2 j2 hd2 M2 => ?_)
  have Y2 : ∀ b, (b = al ∨ (b = d ∧ rs ≠ [])) → h0 b = none := fun b w => w.elim (fun w => by rw [w]; exact nal) (fun w => by rw [w.1]; exact nd w.2)
  refine hK h2 (M2 _ _ hy (fun w => ny0 (Y2 _ w))) (fun b e hb n => M2 _ _ (m _ _ hb n) (fun w => by rw [Y2 b w] at hb; cases hb)) (M2 _ _ cx (fun w => w.elim xa (fun w => xd w.2 w.1)))
/-- a list in which nothing stands yet -/
theorem lst.nil (m : hm_mo h0 h (fun b => b = y)) (ny0 : h0 y ≠ none) (ny : h y ≠ none) (nx : h0 x = none) (na : h0 al = none) (xa : x ≠ al) (cx : h x = some ex) (j : ja dA h al (dA 99) []) : lst dA R h0 h z y x al ex [] := ⟨dA 99, [], [], m, ny0, ny, nx, na, xa, fun w => absurd rfl w, cx, fun w => absurd rfl w, j, rfl, List.nodup_nil⟩
/-- what has been read, at the end -/
theorem lst.done (g : gR R) (l : lst dA R h0 h z y x al ex acc) : ∃ (rs L : List Nat), jF dA h (fun b => h0 b = none) al rs ∧ pl (R h z (fun b => h0 b = none)) L rs acc ∧ (x :: L).Nodup ∧ h0 x = none ∧ hm_mo h0 h (fun b => b = y) ∧ h x = some ex := by
  obtain ⟨d, rs, L, m9, ny0, nyh, nx, nal, xa, nd, cx9, xd, j9, p9, nn⟩ := l
  refine ⟨rs, L, ⟨d, j9, nal, nd⟩, pl.imp _ _ _ (fun L1 r e hb k => g.mo hm_mo.refl hz_mo.refl (fun b e _ f => f.1) (fun b f w => (w : False).elim) L1 r e (fun b _ f w => w) k) p9, List.nodup_cons.mpr ⟨fun w => ?_, nn⟩, nx, m9, cx9⟩
  exact (pl.mem (Q := fun b => fE h0 x al d rs b ∧ c23 h b) (fun L c x k => g.all L c x k) _ _ _ p9 x w).1.2.1 rfl
end QU4
