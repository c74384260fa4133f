-- reading: the reader's cell and its small steps
/-- a reader of markup: text, place, first error, nodes read, scratch, too much -/
def r6c (tt p : Nat) (wr : Int32) (rd sc : Nat) (tm : Int32) : va_E := .inr (6, [.ref tt, .int (nI p), .int wr, .ref rd, .ref sc, .int tm])
/-- what a reader reads -/
def rT (z : hz_T) (tt : Nat) (xs : List Nat) : Prop := (∃ u, z tt = some (u, xs)) ∧ xs.length ≤ 120 ∧ ∀ c ∈ xs, c < 128
theorem rT.mo {z z1 : hz_T} {tt : Nat} {xs : List Nat} (t : rT z tt xs) (m : hz_mo z z1) : rT z1 tt xs := by
  obtain ⟨⟨u, hu⟩, r⟩ := t
  exact ⟨⟨u, m _ _ hu⟩, r⟩
theorem cg_ch_of {c : Nat} (hc : c < 128) {K : Prop} (hK : K) : cg_ch (nI c) K := ⟨nI_char (by omega), hK⟩
section PL1
variable {dA : Nat → ClassId} {h : hm_T} {z : hz_T} {y tt p rd sc : Nat} {wr tm : Int32} {xs : List Nat}
theorem rl_seen (R : h y = some (r6c tt p wr rd sc tm)) (t : rT z tt xs) {i : Nat} (hi : i < 2 ^ 31) {K : Int32 → hm_T → hz_T → Prop} (hK : K (nI (xs.getD i 0)) h z) : w_TextReader_seen6 dA y (nI i) K h z := by
  obtain ⟨⟨u, hu⟩, hl, hc⟩ := t
  unfold w_TextReader_seen6
  refine cg_R_ref R rfl (cg_d_of ⟨u, xs, hu, ?_⟩)
  by_cases q : xs.length ≤ i
  · rw [List.getD_eq_getElem?_getD, List.getElem?_eq_none q] at hK
    exact if_yes (nI_le q hi) hK
  · exact if_no (nI_ge (by omega) (by omega)) (cg_R_ref R rfl (cg_d_of ⟨u, xs, i, hu, rfl, by omega, by omega, hc, cg_ch_of (getD_lt hc i) hK⟩))
theorem rl_failAt (R : h y = some (r6c tt p wr rd sc tm)) {i : Nat} {K : Int32 → hm_T → hz_T → Prop} (hK : ∀ h1, h1 y = some (r6c tt p (nI i) rd sc tm) → hm_mo h h1 (fun b => b = y) → K 0 h1 z) : w_TextReader_failAt6 dA y (nI i) K h z := by
  unfold w_TextReader_failAt6
  exact cg_p_of R (show 2 < 6 by decide) (hK _ hm_s (hm_mo.u rfl))
theorem rl_failed0 (R : h y = some (r6c tt p (-1) rd sc tm)) {K : Int32 → hm_T → hz_T → Prop} (hK : K 0 h z) : w_TextReader_failed6 dA y K h z := by
  unfold w_TextReader_failed6
  exact cg_I_of R rfl (if_yes rfl hK)
theorem rl_failed1 {e : Nat} (R : h y = some (r6c tt p (nI e) rd sc tm)) (he : e < 2 ^ 31) {K : Int32 → hm_T → hz_T → Prop} (hK : K 1 h z) : w_TextReader_failed6 dA y K h z := by
  unfold w_TextReader_failed6
  refine cg_I_of R rfl (if_no (fun q => ?_) hK)
  have := congrArg Int32.toInt q
  rw [nI_toInt he, show (-1 : Int32).toInt = -1 by decide] at this
  omega
theorem rl_take (R : h y = some (r6c tt p wr rd sc tm)) (t : rT z tt xs) (hp : p < 2 ^ 30) {c : Nat} (hc : c < 128) {K : Int32 → hm_T → hz_T → Prop} (h1 : xs.getD p 0 = c → ∀ h1, h1 y = some (r6c tt (p + 1) wr rd sc tm) → hm_mo h h1 (fun b => b = y) → K 1 h1 z) (h0 : xs.getD p 0 ≠ c → ∀ h1, h1 y = some (r6c tt p (nI p) rd sc tm) → hm_mo h h1 (fun b => b = y) → K 0 h1 z) : w_TextReader_take6 dA y (nI c) K h z := by
  have hl := getD_lt t.2.2 p
  unfold w_TextReader_take6
  refine cg_I_of R rfl (cg_c_of R (rl_seen R t (by omega) ?_))
  by_cases q : xs.getD p 0 = c
  · refine if_yes (by rw [q]) (cg_I_of R rfl (cg_p_of R (show 1 < 6 by decide) ?_))
    rw [nI_1]
    exact h1 q _ hm_s (hm_mo.u rfl)
  · refine if_no (fun w => q ((nI_eq (by omega) (by omega)).mp w)) (cg_I_of R rfl (cg_c_of R (rl_failAt R (fun h2 R2 M2 => ⟨Or.inl rfl, h0 q h2 R2 M2⟩))))
theorem rl_readEnd (R : h y = some (r6c tt p wr rd sc tm)) (t : rT z tt xs) (hp : p < 2 ^ 30) {K : Int32 → hm_T → hz_T → Prop} (h1 : p = xs.length → K 1 h z) (h0 : p ≠ xs.length → ∀ h1, h1 y = some (r6c tt p (nI p) rd sc tm) → hm_mo h h1 (fun b => b = y) → K 0 h1 z) : w_TextReader_readEnd6 dA y K h z := by
  obtain ⟨⟨u, hu⟩, hl, hc⟩ := t
  unfold w_TextReader_readEnd6
  refine cg_I_of R rfl (cg_R_ref R rfl (cg_d_of ⟨u, xs, hu, ?_⟩))
  by_cases q : p = xs.length
  · exact if_yes (by rw [q]) (h1 q)
  · exact if_no (fun w => q ((nI_eq (by omega) (by omega)).mp w)) (cg_I_of R rfl (cg_c_of R (rl_failAt R (fun h2 R2 M2 => if_yes rfl (h0 q h2 R2 M2)))))
end PL1
