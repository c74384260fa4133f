-- the reference's plain questions
theorem mp_fst_some {P : Nat → Bool} : ∀ (m k : Nat) {j : Nat}, mp_fst P m k = some j → (k ≤ j ∧ j < k + m) ∧ P j = true := by
  intro m
  induction m with
  | zero => intro k j h; cases h
  | succ m ih =>
    intro k j h
    unfold mp_fst at h
    by_cases hc : P k = true
    · rw [if_pos hc] at h
      cases h
      exact ⟨⟨Nat.le_refl _, by omega⟩, hc⟩
    · rw [if_neg hc] at h
      obtain ⟨⟨h1, h2⟩, h3⟩ := ih (k + 1) h
      exact ⟨⟨by omega, by omega⟩, h3⟩
theorem mp_nodes {st : mT} {n : Nat} {d : Nat → Nat} (h : mp_D st n d) : g_nodes st = some (nI n, st) := by
  unfold g_nodes
  rw [mp_bd (mp_cnt h)]
theorem mp_root {st : mT} {n : Nat} {d : Nat → Nat} (h : mp_D st n d) : g_root st = some ((if n = 0 then -1000 else st.2.1 0 (128 * d 0) - 1), st) := by
  have h1 := h.1
  unfold g_root
  rw [mp_bd (mp_cnt h)]
  by_cases hn : n = 0
  · rw [if_pos (show nI n = 0 by rw [hn]; rfl), if_pos hn]
  · rw [if_neg (show ¬ nI n = 0 from nI_ne0 (by omega) (by omega)), if_neg hn]
    have e1 : g_doc 0 st = some (nI (d 0), st) := mp_dc (k := 0) h (by omega)
    have e2 : g_f (nI (d 0)) 0 st = some (st.2.1 0 (128 * d 0), st) := mp_f st (o := 0) (h.2.2 0 (by omega)).1 (by decide)
    rw [mp_bd e1, mp_bd e2]
/-- the place of the node with number i -/
def mp_at (st : mT) (d : Nat → Nat) (n : Nat) (i : Int32) : Option Nat := mp_fst (fun k => decide (st.2.1 0 (128 * d k) - 1 = i)) n 0
theorem mp_at_lt {st : mT} {d : Nat → Nat} {n j : Nat} {i : Int32} (e : mp_at st d n i = some j) : j < n ∧ st.2.1 0 (128 * d j) - 1 = i := by
  obtain ⟨⟨h1, h2⟩, h3⟩ := mp_fst_some n 0 e
  exact ⟨by omega, of_decide_eq_true h3⟩
theorem mp_pl_some {st : mT} {n j : Nat} {d : Nat → Nat} {i : Int32} (h : mp_D st n d) (e : mp_at st d n i = some j) : g_place i st = some (nI (d j), st) := by
  rw [mp_place h i]
  unfold mp_at at e
  rw [e]
theorem mp_pl_none {st : mT} {n : Nat} {d : Nat → Nat} {i : Int32} (h : mp_D st n d) (e : mp_at st d n i = none) : g_place i st = some (-1, st) := by
  rw [mp_place h i]
  unfold mp_at at e
  rw [e]
theorem mp_kind {st : mT} {n : Nat} {d : Nat → Nat} (h : mp_D st n d) (i : Int32) : g_kind i st = some ((match mp_at st d n i with | some j => st.2.1 0 (128 * d j + 1) | none => -1000), st) := by
  unfold g_kind
  cases e : mp_at st d n i with
  | none =>
    rw [mp_bd (mp_pl_none h e), if_neg (show ¬ (0 : Int32) ≤ -1 by decide)]
  | some j =>
    have hj := (h.2.2 j (mp_at_lt e).1).1
    rw [mp_bd (mp_pl_some h e), if_pos (nI_pos' (by omega)), mp_bd (show g_f (nI (d j)) 1 st = some (st.2.1 0 (128 * d j + 1), st) from mp_f st (o := 1) hj (by decide))]
theorem mp_letter {st : mT} {n : Nat} {d len : Nat → Nat} (h : mp_D st n d) (hl : ∀ k, k < n → len k ≤ 20 ∧ st.2.1 0 (128 * d k + 3) = nI (len k)) (i y : Int32) : g_letter i y st = some ((match mp_at st d n i with | some j => (if y < 0 then 0 else if y < nI (len j) then st.2.1 0 (128 * d j + (8 + y.toNatClampNeg)) else 0) | none => 0), st) := by
  unfold g_letter
  cases e : mp_at st d n i with
  | none =>
    rw [mp_bd (mp_pl_none h e), if_pos (show (-1 : Int32) < 0 by decide)]
    rfl
  | some j =>
    have hn := (mp_at_lt e).1
    have hj := (h.2.2 j hn).1
    obtain ⟨l1, l2⟩ := hl j hn
    rw [mp_bd (mp_pl_some h e), if_neg (nI_pos (by omega))]
    by_cases hy : y < 0
    · rw [if_pos hy]
      show g_letter_24 st = some ((if y < 0 then 0 else _), st)
      rw [if_pos hy]
      rfl
    · rw [if_neg hy, mp_bd (show g_f (nI (d j)) 3 st = some (nI (len j), st) from by rw [← l2]; exact mp_f st (o := 3) hj (by decide))]
      show (if y < nI (len j) then _ else _) = some ((if y < 0 then 0 else if y < nI (len j) then _ else 0), st)
      rw [if_neg hy]
      by_cases hc : y < nI (len j)
      · rw [if_pos hc, if_pos hc]
        obtain ⟨q, hq, rfl⟩ := nI_of hy
        have hq2 := (nI_ltI hq (by omega)).mp hc
        rw [mp_bd (show g_f (nI (d j)) (8 + nI q) st = some (st.2.1 0 (128 * d j + (8 + q)), st) from by rw [show (8 : Int32) + nI q = nI (8 + q) from by rw [show (8 : Int32) = nI 8 from rfl, nI_add]]; exact mp_f st hj (by omega)), nI_clamp hq]
      · rw [if_neg hc, if_neg hc]
        rfl
theorem mp_label {st : mT} {n : Nat} {d len : Nat → Nat} (h : mp_D st n d) (hl : ∀ k, k < n → len k ≤ 16 ∧ st.2.1 0 (128 * d k + 4) = nI (len k)) (i y : Int32) : g_label i y st = some ((match mp_at st d n i with | some j => (if y < 0 then 0 else if y < nI (len j) then st.2.1 0 (128 * d j + (28 + y.toNatClampNeg)) else 0) | none => 0), st) := by
  unfold g_label
  cases e : mp_at st d n i with
  | none =>
    rw [mp_bd (mp_pl_none h e), if_pos (show (-1 : Int32) < 0 by decide)]
    rfl
  | some j =>
    have hn := (mp_at_lt e).1
    have hj := (h.2.2 j hn).1
    obtain ⟨l1, l2⟩ := hl j hn
    rw [mp_bd (mp_pl_some h e), if_neg (nI_pos (by omega))]
    by_cases hy : y < 0
    · rw [if_pos hy]
      show g_label_24 st = some ((if y < 0 then 0 else _), st)
      rw [if_pos hy]
      rfl
    · rw [if_neg hy, mp_bd (show g_f (nI (d j)) 4 st = some (nI (len j), st) from by rw [← l2]; exact mp_f st (o := 4) hj (by decide))]
      show (if y < nI (len j) then _ else _) = some ((if y < 0 then 0 else if y < nI (len j) then _ else 0), st)
      rw [if_neg hy]
      by_cases hc : y < nI (len j)
      · rw [if_pos hc, if_pos hc]
        obtain ⟨q, hq, rfl⟩ := nI_of hy
        have hq2 := (nI_ltI hq (by omega)).mp hc
        rw [mp_bd (show g_f (nI (d j)) (28 + nI q) st = some (st.2.1 0 (128 * d j + (28 + q)), st) from by rw [show (28 : Int32) + nI q = nI (28 + q) from by rw [show (28 : Int32) = nI 28 from rfl, nI_add]]; exact mp_f st hj (by omega)), nI_clamp hq]
      · rw [if_neg hc, if_neg hc]
        rfl
theorem mp_result {st : mT} {m : Nat} (hm : m ≤ 40) (h : st.1 55 = nI m) (y : Int32) : g_result y st = some ((if y < 0 then -1000 else if nI m ≤ y then -1000 else st.2.1 56 y.toNatClampNeg), st) := by
  unfold g_result
  by_cases hy : y < 0
  · rw [if_pos hy, if_pos hy]
    rfl
  · rw [if_neg hy, if_neg hy, h]
    by_cases hc : nI m ≤ y
    · rw [if_pos hc, if_pos hc]
      rfl
    · rw [if_neg hc, if_neg hc]
      obtain ⟨q, hq, rfl⟩ := nI_of hy
      have hq2 : q < m := by
        rcases Nat.lt_or_ge q m with h9 | h9
        · exact h9
        · exact absurd (nI_le h9 hq) hc
      rw [mp_ld (by omega) (by decide), nI_clamp hq]
