-- replace: the class
def a_small (c : Nat) : Bool := decide (97 ≤ c ∧ c ≤ 122)
/-- a - that another - or the end follows -/
def a_bad (xs : List Nat) (k : Nat) : Bool := decide (xs.getD k 0 = 45 ∧ (k + 1 = xs.length ∨ xs.getD (k + 1) 0 = 45))
def a_name (xs : List Nat) : Bool := decide (0 < xs.length ∧ xs.length ≤ 6 ∧ mp_fst (fun k => !a_small (xs.getD k 0)) xs.length 0 = none)
/-- a node of this kind may have this text -/
def a_may (kd : Nat) (xs : List Nat) : Bool := decide (0 < xs.length ∧ xs.length ≤ 20 ∧ (kd = 1 → a_name xs = true) ∧ (kd = 3 → mp_fst (a_bad xs) xs.length 0 = none))
def nd_set (D : Nat → nd) (k : Nat) (t : List Nat) : Nat → nd := fun i => if i = k then ((D i).1, (D i).2.1, (D i).2.2.1, (D i).2.2.2.1, (D i).2.2.2.2.1, t) else D i
theorem nd_set_pa {D : Nat → nd} {k : Nat} {t : List Nat} : (fun i => (nd_set D k t i).2.2.1) = fun i => (D i).2.2.1 := by
  funext i
  unfold nd_set
  by_cases q : i = k
  · rw [if_pos q]
  · rw [if_neg q]
theorem nd_set_s {D : Nat → nd} {k : Nat} {t : List Nat} : nd_set D k t k = ((D k).1, (D k).2.1, (D k).2.2.1, (D k).2.2.2.1, (D k).2.2.2.2.1, t) := if_pos rfl
theorem nd_set_n {D : Nat → nd} {k i : Nat} {t : List Nat} (h : i ≠ k) : nd_set D k t i = D i := if_neg h
theorem nd_set_ok {mk n k : Nat} {D : Nat → nd} {t : List Nat} (ok : nd_ok mk n D) (ht : t.length ≤ 20) (hc : ∀ c ∈ t, c < 128) : nd_ok mk n (nd_set D k t) := by
  refine ⟨ok.1, fun i hi => ?_⟩
  have o := ok.2 i hi
  by_cases q : i = k
  · subst q
    rw [nd_set_s]
    exact ⟨o.1, o.2.1, o.2.2.1, o.2.2.2.1, o.2.2.2.2.1, o.2.2.2.2.2.1, ht, hc, o.2.2.2.2.2.2.2.2⟩
  · rw [nd_set_n q]; exact o
theorem getD_mem {xs : List Nat} {k : Nat} (h : k < xs.length) : xs.getD k 0 ∈ xs := by
  rw [List.getD_eq_getElem?_getD, List.getElem?_eq_getElem h]
  exact List.getElem_mem h
theorem getD_lt {xs : List Nat} (hc : ∀ c ∈ xs, c < 128) (k : Nat) : xs.getD k 0 < 128 := by
  by_cases h : k < xs.length
  · exact hc _ (getD_mem h)
  · rw [List.getD_eq_getElem?_getD, List.getElem?_eq_none (by omega)]
    decide
section PR1
variable {dA : Nat → ClassId} {h : hm_T} {z : hz_T} {xs : List Nat} {t u : Nat}
theorem cp_small {c : Nat} (hc : c < 128) {K : Int32 → hm_T → hz_T → Prop} (hK : K (if a_small c then 1 else 0) h z) : w_Store_isSmallLetter dA (nI c) K h z := by
  unfold w_Store_isSmallLetter
  by_cases q1 : c < 97
  · refine if_yes (nI_lt (b := 97) q1 (by decide)) ?_
    rw [if_neg (by simp [a_small]; omega)] at hK
    exact hK
  refine if_no (nI_nlt (b := 97) (by omega) (by omega)) ?_
  by_cases q2 : 122 < c
  · refine if_yes (nI_lt (a := 122) q2 (by omega)) ?_
    rw [if_neg (by simp [a_small]; omega)] at hK
    exact hK
  refine if_no (nI_nlt (a := 122) (by omega) (by decide)) ?_
  rw [if_pos (by simp [a_small]; omega)] at hK
  exact hK
theorem cp_isNameL (hz : z t = some (u, xs)) (hl : xs.length < 2 ^ 30) (hc : ∀ c ∈ xs, c < 128) {K : Int32 → hm_T → hz_T → Prop} : ∀ (r fu k : Nat), k + r = xs.length → r < fu → K (if 0 < xs.length ∧ xs.length ≤ 6 ∧ mp_fst (fun k => !a_small (xs.getD k 0)) r k = none then 1 else 0) h z → w_Store_isName_2 dA K fu (some t) (nI k) h z := by
  intro r
  induction r with
  | zero =>
    intro fu k hk hr hK
    obtain ⟨fu, rfl⟩ : ∃ f, fu = f + 1 := ⟨fu - 1, by omega⟩
    obtain rfl : k = xs.length := by omega
    unfold w_Store_isName_2
    refine cg_d_of ⟨u, xs, hz, if_yes (nI_le (Nat.le_refl _) (by omega)) (cg_d_of ⟨u, xs, hz, by omega, ?_⟩)⟩
    by_cases q0 : xs.length = 0
    · rw [if_pos q0]
      rw [if_neg (by omega)] at hK
      exact if_no (by decide) hK
    · rw [if_neg q0]
      refine if_yes rfl (cg_d_of ⟨u, xs, hz, ?_⟩)
      by_cases q6 : 6 < xs.length
      · rw [if_neg (by omega)] at hK
        exact if_yes (nI_lt (a := 6) q6 (by omega)) hK
      · rw [if_pos ⟨by omega, by omega, rfl⟩] at hK
        exact if_no (nI_nlt (b := xs.length) (a := 6) (by omega) (by decide)) hK
  | succ r ih =>
    intro fu k hk hr hK
    obtain ⟨fu, rfl⟩ : ∃ f, fu = f + 1 := ⟨fu - 1, by omega⟩
    unfold w_Store_isName_2
    refine cg_d_of ⟨u, xs, hz, if_no (nI_ge (by omega) (by omega)) (cg_d_of ⟨u, xs, k, hz, rfl, by omega, by omega, hc, cp_small (getD_lt hc k) ?_⟩)⟩
    cases q : a_small (xs.getD k 0) with
    | false =>
      rw [if_neg (show ¬ false = true by decide)]
      rw [if_neg (fun w => by have w3 := w.2.2; simp only [mp_fst, q] at w3; simp at w3)] at hK
      exact if_yes rfl hK
    | true =>
      rw [if_pos rfl]
      refine if_no (by decide) ?_
      rw [nI_1]
      refine ih fu (k + 1) (by omega) (by omega) ?_
      simp only [mp_fst, q, Bool.not_true, Bool.false_eq_true, if_false] at hK
      exact hK
theorem cp_isName (hz : z t = some (u, xs)) (hl : xs.length < 1000) (hc : ∀ c ∈ xs, c < 128) {K : Int32 → hm_T → hz_T → Prop} (hK : K (if a_name xs then 1 else 0) h z) : w_Store_isName dA (some t) K h z := by
  unfold w_Store_isName
  refine cp_isNameL hz (by omega) hc xs.length mF 0 (by omega) (by unfold mF; omega) ?_
  unfold a_name at hK
  simpa only [decide_eq_true_eq] using hK
theorem cp_comL (hz : z t = some (u, xs)) (hl : xs.length < 2 ^ 30) (hc : ∀ c ∈ xs, c < 128) {K : Int32 → hm_T → hz_T → Prop} : ∀ (r fu k : Nat), k + r = xs.length → r < fu → K (if mp_fst (a_bad xs) r k = none then 1 else 0) h z → w_Store_mayBeComment_2 dA K fu (some t) (nI k) h z := by
  intro r
  induction r with
  | zero =>
    intro fu k hk hr hK
    obtain ⟨fu, rfl⟩ : ∃ f, fu = f + 1 := ⟨fu - 1, by omega⟩
    obtain rfl : k = xs.length := by omega
    unfold w_Store_mayBeComment_2
    rw [if_pos (show mp_fst (a_bad xs) 0 xs.length = none from rfl)] at hK
    exact cg_d_of ⟨u, xs, hz, if_yes (nI_le (Nat.le_refl _) (by omega)) hK⟩
  | succ r ih =>
    intro fu k hk hr hK
    obtain ⟨fu, rfl⟩ : ∃ f, fu = f + 1 := ⟨fu - 1, by omega⟩
    have go : a_bad xs k = false → w_Store_mayBeComment_2 dA K fu (some t) (nI (k + 1)) h z := fun q => by
      refine ih fu (k + 1) (by omega) (by omega) ?_
      simp only [mp_fst, q, Bool.false_eq_true, if_false] at hK
      exact hK
    have no : a_bad xs k = true → K 0 h z := fun q => by
      simp only [mp_fst, q, if_true, reduceCtorEq, if_false] at hK
      exact hK
    have e45 : ∀ c : Nat, c < 128 → (nI c = 45 ↔ c = 45) := fun c h => nI_eq (b := 45) (by omega) (by decide)
    have hk1 := getD_lt hc k
    have hk2 := getD_lt hc (k + 1)
    have at37 : ∀ w0 : Int32, (w0 = 0 → ¬ (k + 1 = xs.length ∨ xs.getD (k + 1) 0 = 45)) → (¬ w0 = 0 → (k + 1 = xs.length ∨ xs.getD (k + 1) 0 = 45)) → w_Store_mayBeComment_37 dA K (w_Store_mayBeComment_2 dA K fu) (some t) (nI k) w0 h z := by
      intro w0 h0 h1
      unfold w_Store_mayBeComment_37 w_Store_mayBeComment_54
      refine cg_d_of ⟨u, xs, k, hz, rfl, by omega, by omega, hc, ?_⟩
      rw [nI_1]
      by_cases q1 : xs.getD k 0 = 45
      · refine if_yes ((e45 _ hk1).mpr q1) ?_
        by_cases q2 : w0 = 0
        · exact if_yes q2 (go (decide_eq_false (fun k => h0 q2 k.2)))
        · exact if_no q2 (no (decide_eq_true ⟨q1, h1 q2⟩))
      · exact if_no (fun q => q1 ((e45 _ hk1).mp q)) (go (decide_eq_false (fun k => q1 k.1)))
    unfold w_Store_mayBeComment_2
    refine cg_d_of ⟨u, xs, hz, if_no (nI_ge (by omega) (by omega)) (cg_d_of ⟨u, xs, hz, ?_⟩)⟩
    rw [nI_1]
    by_cases q3 : k + 1 = xs.length
    · refine if_yes (by rw [q3]) ?_
      unfold w_Store_mayBeComment_32
      exact at37 1 (fun q => absurd q (by decide)) (fun _ => Or.inl q3)
    · refine if_no (fun q => q3 ((nI_eq (by omega) (by omega)).mp q)) (cg_d_of ⟨u, xs, k + 1, hz, rfl, by omega, by omega, hc, ?_⟩)
      by_cases q4 : xs.getD (k + 1) 0 = 45
      · refine if_yes ((e45 _ hk2).mpr q4) ?_
        unfold w_Store_mayBeComment_32
        exact at37 1 (fun q => absurd q (by decide)) (fun _ => Or.inr q4)
      · refine if_no (fun q => q4 ((e45 _ hk2).mp q)) (at37 0 (fun _ q => q.elim q3 q4) (fun q => absurd rfl q))
theorem cp_may (hz : z t = some (u, xs)) (hl : xs.length < 1000) (hc : ∀ c ∈ xs, c < 128) {kd : Nat} (hd : kd < 4) {K : Int32 → hm_T → hz_T → Prop} (hK : K (if a_may kd xs then 1 else 0) h z) : w_Store_mayBecome dA (nI kd) (some t) K h z := by
  unfold a_may at hK
  simp only [decide_eq_true_eq] at hK
  unfold w_Store_mayBecome
  refine cg_d_of ⟨u, xs, hz, by omega, ?_⟩
  by_cases q0 : xs.length = 0
  · rw [if_pos q0]
    rw [if_neg (by omega)] at hK
    exact if_no (by decide) hK
  rw [if_neg q0]
  refine if_yes rfl (cg_d_of ⟨u, xs, hz, ?_⟩)
  by_cases q20 : xs.length ≤ 20
  · refine if_yes (nI_le (b := 20) q20 (by decide)) ?_
    by_cases q1 : kd = 1
    · subst q1
      refine if_yes rfl (cp_isName hz hl hc ?_)
      have e : (0 < xs.length ∧ xs.length ≤ 20 ∧ (1 = 1 → a_name xs = true) ∧ (1 = 3 → mp_fst (a_bad xs) xs.length 0 = none)) ↔ a_name xs = true := ⟨fun q => q.2.2.1 rfl, fun q => ⟨by omega, q20, fun _ => q, fun k => absurd k (by decide)⟩⟩
      have hK2 : K (if a_name xs = true then 1 else 0) h z := by
        by_cases q : a_name xs = true
        · rw [if_pos q]
          rw [if_pos (e.mpr q)] at hK
          exact hK
        · rw [if_neg q]
          rw [if_neg (fun k => q (e.mp k))] at hK
          exact hK
      refine ⟨?_, hK2⟩
      cases a_name xs
      · exact Or.inl rfl
      · exact Or.inr rfl
    · refine if_no (fun q => q1 ((nI_eq (b := 1) (by omega) (by decide)).mp q)) ?_
      by_cases q3 : kd = 3
      · subst q3
        refine if_yes rfl ?_
        unfold w_Store_mayBeComment
        refine cp_comL hz (by omega) hc xs.length mF 0 (by omega) (by unfold mF; omega) ?_
        by_cases q4 : mp_fst (a_bad xs) xs.length 0 = none
        · rw [if_pos ⟨by omega, q20, fun k => absurd k (by decide), fun _ => q4⟩] at hK
          rw [if_pos q4]
          exact if_no (by decide) hK
        · rw [if_neg (fun k => q4 (k.2.2.2 rfl))] at hK
          rw [if_neg q4]
          exact if_yes rfl hK
      · refine if_no (fun q => q3 ((nI_eq (b := 3) (by omega) (by decide)).mp q)) ?_
        rw [if_pos ⟨by omega, q20, fun k => absurd k q1, fun k => absurd k q3⟩] at hK
        exact hK
  · rw [if_neg (fun k => q20 k.2.1)] at hK
    exact if_no (nI_ge (a := 20) (by omega) (by omega)) hK
end PR1
