-- the class's small answers over its picture
/-- the place of the node with this number -/
def a_at (n : Nat) (D : Nat → nd) (x : Int32) : Option Nat := mp_fst (fun k => decide (nI (D k).1 = x)) n 0
theorem mp_fst_none {P : Nat → Bool} : ∀ (m k : Nat), mp_fst P m k = none → ∀ j, k ≤ j → j < k + m → P j = false := by
  intro m
  induction m with
  | zero => intro k _ j h1 h2; omega
  | succ m ih =>
    intro k h j h1 h2
    unfold mp_fst at h
    cases hp : P k with
    | true => rw [hp] at h; cases h
    | false =>
      rw [hp] at h
      by_cases e : j = k
      · rw [e]; exact hp
      · exact ih (k + 1) h j (by omega) (by omega)
theorem mp_fst_congr {P R : Nat → Bool} : ∀ (m k : Nat), (∀ j, k ≤ j → j < k + m → P j = R j) → mp_fst P m k = mp_fst R m k := by
  intro m
  induction m with
  | zero => intro k _; rfl
  | succ m ih =>
    intro k h
    unfold mp_fst
    rw [h k (Nat.le_refl _) (by omega), ih (k + 1) (fun j h1 h2 => h j (by omega) (by omega))]
theorem a_at_some {n k : Nat} {D : Nat → nd} {x : Int32} (e : a_at n D x = some k) : k < n ∧ x = nI (D k).1 := by
  have := mp_fst_some _ _ e
  exact ⟨by omega, (of_decide_eq_true this.2).symm⟩
theorem a_at_none {n : Nat} {D : Nat → nd} {x : Int32} (e : a_at n D x = none) : ∀ k, k < n → x ≠ nI (D k).1 := fun k hk q => by
  have := mp_fst_none _ _ e k (by omega) (by omega)
  exact absurd q.symm (of_decide_eq_false this)
section PC2
variable {dA : Nat → ClassId} {h h1 : hm_T} {z z1 : hz_T} {y mk n m : Nat} {D D2 : Nat → nd} {xs : List Nat} {rs : List Int32} {ch : Int32} {a aM aO aE : Nat} {N B E : Nat → Nat} {J : Nat → Int32 × Option Nat × Int32 × Nat × Nat × Int32} {V : Nat → Int32 × Nat × Nat} {Q : Nat → Prop} {tf : Nat → Nat}
theorem cp_nu (T : cp_T dA h a aM aO aE mk n m N B E J V) (P : cp_P mk n N B J V) (d : cp_doc dA h z Q B J tf n D) (ok : nd_ok mk n D) (hm : mk ≤ 200) {k : Nat} (hk : k < n) : N (D k).1 = B k := by
  obtain ⟨i, hi, e⟩ := T.2.2.2.2.2.1 k hk
  have h1 := P.1 i hi
  rw [e, (d k hk).2.2.2.1] at h1
  have h2 := (ok.2 k hk).1
  rw [(nI_eq (by omega) (by omega)).mp h1]
  exact e
theorem cp_nn (T : cp_T dA h a aM aO aE mk n m N B E J V) (P : cp_P mk n N B J V) (d : cp_doc dA h z Q B J tf n D) {x : Int32} (hx : ∀ k, k < n → x ≠ nI (D k).1) : ∀ i k, i < mk → k < n → N i = B k → x ≠ nI i := by
  intro i k hi hk e q
  have h1 := P.1 i hi
  rw [e, (d k hk).2.2.2.1] at h1
  exact hx k hk (by rw [q, h1])
theorem pc_kind (I : cPIC dA y h z mk n D m D2 xs rs ch) (ok : aOK mk n D m D2 xs rs) {x : Int32} {K : Int32 → hm_T → hz_T → Prop} (hK : K (match a_at n D x with | some k => nI (D k).2.1 | none => -1000) h z) : w_Store_kind dA y x K h z := by
  obtain ⟨bu, bv, sc, sv, fo, a, aM, aO, aE, N, B, E, J, V, ws, S, jB, jS, jF, T, P, d, d2, r⟩ := I
  cases e : a_at n D x with
  | none =>
    rw [e] at hK
    exact cp_kind_none S T P (cp_nn T P d (a_at_none e)) hK
  | some k =>
    rw [e] at hK
    obtain ⟨hk, rfl⟩ := a_at_some e
    refine cp_kind_some S T P hk (ok.1.2 k hk).1 (cp_nu T P d ok.1 ok.2.2.1 hk) ?_
    rw [(d k hk).1]
    exact hK
theorem pc_nodes (I : cPIC dA y h z mk n D m D2 xs rs ch) {K : Int32 → hm_T → hz_T → Prop} (hK : K (nI n) h z) : w_Store_nodes dA y K h z := by
  obtain ⟨bu, bv, sc, sv, fo, a, aM, aO, aE, N, B, E, J, V, ws, S, jB, jS, jF, T, P, d, d2, r⟩ := I
  exact cp_nodes S T hK
theorem pc_root (I : cPIC dA y h z mk n D m D2 xs rs ch) {K : Int32 → hm_T → hz_T → Prop} (hK : K (if n = 0 then -1000 else nI (D 0).1) h z) : w_Store_root dA y K h z := by
  obtain ⟨bu, bv, sc, sv, fo, a, aM, aO, aE, N, B, E, J, V, ws, S, jB, jS, jF, T, P, d, d2, r⟩ := I
  refine cp_root S T ?_
  by_cases q : n = 0
  · rw [if_pos q] at hK ⊢; exact hK
  · rw [if_neg q] at hK ⊢
    rw [(d 0 (by omega)).2.2.2.1]
    exact hK
theorem pc_result (I : cPIC dA y h z mk n D m D2 xs rs ch) (ok : aOK mk n D m D2 xs rs) {x : Int32} {K : Int32 → hm_T → hz_T → Prop} (hK : K (if x < 0 then -1000 else if nI rs.length ≤ x then -1000 else rs.getD x.toNatClampNeg 0) h z) : w_Store_result dA y x K h z := by
  obtain ⟨bu, bv, sc, sv, fo, a, aM, aO, aE, N, B, E, J, V, ws, S, jB, jS, ⟨g, jF, jG⟩, T, P, d, d2, r⟩ := I
  refine cp_result S ok.2.2.2.2.2.1 jF ?_
  by_cases h0 : x < 0
  · rw [if_pos h0] at hK ⊢; exact hK
  by_cases h1 : nI rs.length ≤ x
  · rw [if_neg h0, if_pos h1] at hK ⊢; exact hK
  rw [if_neg h0, if_neg h1] at hK ⊢
  have hr := ok.2.2.2.2.2.1
  have h2 := Int32.lt_iff_toInt_lt.mp (Int32.not_le.mp h1)
  rw [nI_toInt (by omega)] at h2
  obtain ⟨e1, e2, e3⟩ := i32_nat h0
  rw [jG _ (by omega)]
  exact hK
theorem pc_letter (I : cPIC dA y h z mk n D m D2 xs rs ch) (ok : aOK mk n D m D2 xs rs) {x x2 : Int32} {K : Int32 → hm_T → hz_T → Prop} (hK : K (match a_at n D x with | some k => (if x2 < 0 then 0 else if x2 < nI (D k).2.2.2.2.2.length then nI ((D k).2.2.2.2.2.getD x2.toNatClampNeg 0) else 0) | none => 0) h z) : w_Store_letter dA y x x2 K h z := by
  obtain ⟨bu, bv, sc, sv, fo, a, aM, aO, aE, N, B, E, J, V, ws, S, jB, jS, jF, T, P, d, d2, r⟩ := I
  cases e : a_at n D x with
  | none =>
    rw [e] at hK
    exact cp_letter_none S T P (cp_nn T P d (a_at_none e)) hK
  | some k =>
    rw [e] at hK
    obtain ⟨hk, rfl⟩ := a_at_some e
    obtain ⟨u, hu⟩ := (d k hk).2.2.2.2.2.2.2
    have o := ok.1.2 k hk
    exact cp_letter_some S T P hk o.1 (cp_nu T P d ok.1 ok.2.2.1 hk) hu (by omega) o.2.2.2.2.2.2.2.1 hK
theorem pc_label (I : cPIC dA y h z mk n D m D2 xs rs ch) (ok : aOK mk n D m D2 xs rs) {x x2 : Int32} {K : Int32 → hm_T → hz_T → Prop} (hK : K (match a_at n D x with | some k => (if x2 < 0 then 0 else if x2 < nI (D k).2.2.2.1.length then (D k).2.2.2.1.getD x2.toNatClampNeg 0 else 0) | none => 0) h z) : w_Store_label dA y x x2 K h z := by
  obtain ⟨bu, bv, sc, sv, fo, a, aM, aO, aE, N, B, E, J, V, ws, S, jB, jS, jF, T, P, d, d2, r⟩ := I
  cases e : a_at n D x with
  | none =>
    rw [e] at hK
    exact cp_label_none S T P (cp_nn T P d (a_at_none e)) hK
  | some k =>
    rw [e] at hK
    obtain ⟨hk, rfl⟩ := a_at_some e
    obtain ⟨f, f1, f2⟩ := (d k hk).2.2.2.2.1
    have o := ok.1.2 k hk
    refine cp_label_some S T P hk o.1 (cp_nu T P d ok.1 ok.2.2.1 hk) f1 (by omega) ?_
    by_cases h0 : x2 < 0
    · simp only [h0, if_true] at hK ⊢; exact hK
    by_cases h1 : x2 < nI (D k).2.2.2.1.length
    · simp only [h0, h1, if_true, if_false] at hK ⊢
      have h2 := Int32.lt_iff_toInt_lt.mp h1
      rw [nI_toInt (by omega)] at h2
      obtain ⟨e1, e2, e3⟩ := i32_nat h0
      rw [f2 _ (by omega)]
      exact hK
    · simp only [h0, h1, if_false] at hK ⊢; exact hK
end PC2
