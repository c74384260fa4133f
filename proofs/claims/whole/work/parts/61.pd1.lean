-- nodes taken out: what stays
/-- the place before the places from f to t went -/
def nd_ix (f t i : Nat) : Nat := if i < f then i else i + (t - f)
/-- the place when they have gone -/
def nd_sh (f t p : Nat) : Nat := if p < f then p else p - (t - f)
def nd_cut (D : Nat → nd) (f t i : Nat) : nd := ((D (nd_ix f t i)).1, (D (nd_ix f t i)).2.1, ((D (nd_ix f t i)).2.2.1).map (nd_sh f t), (D (nd_ix f t i)).2.2.2)
/-- no parent of who stays goes -/
def nd_cl (n : Nat) (D : Nat → nd) (f t : Nat) : Prop := ∀ i, i < n → (i < f ∨ t ≤ i) → ∀ p, (D i).2.2.1 = some p → p < f ∨ t ≤ p
theorem nd_ix_sh {f t p : Nat} (hft : f ≤ t) (h : p < f ∨ t ≤ p) : nd_ix f t (nd_sh f t p) = p := by
  unfold nd_ix nd_sh
  by_cases q : p < f
  · rw [if_pos q, if_pos q]
  · rw [if_neg q, if_neg (by omega)]; omega
theorem nd_ix_lt {n f t i : Nat} (hft : f ≤ t) (ht : t ≤ n) (hi : i < n - (t - f)) : nd_ix f t i < n ∧ (nd_ix f t i < f ∨ t ≤ nd_ix f t i) := by
  unfold nd_ix
  by_cases q : i < f
  · rw [if_pos q]; omega
  · rw [if_neg q]; omega
theorem nd_ix_mono {f t i j : Nat} (h : i < j) : nd_ix f t i < nd_ix f t j := by
  unfold nd_ix
  by_cases q : i < f
  · rw [if_pos q]
    by_cases q2 : j < f
    · rw [if_pos q2]; exact h
    · rw [if_neg q2]; omega
  · rw [if_neg q, if_neg (by omega)]; omega
theorem nd_ix_inj {f t i j : Nat} (h : nd_ix f t i = nd_ix f t j) : i = j := by
  rcases Nat.lt_trichotomy i j with q | q | q
  · have := nd_ix_mono (f := f) (t := t) q; omega
  · exact q
  · have := nd_ix_mono (f := f) (t := t) q; omega
theorem nd_sh_lt {f t p i : Nat} (hft : f ≤ t) (h : p < f ∨ t ≤ p) (hp : p < nd_ix f t i) : nd_sh f t p < i := by
  rcases Nat.lt_or_ge (nd_sh f t p) i with q | q
  · exact q
  · exfalso
    rcases Nat.lt_or_ge i (nd_sh f t p) with q2 | q2
    · have := nd_ix_mono (f := f) (t := t) q2
      rw [nd_ix_sh hft h] at this
      omega
    · have : i = nd_sh f t p := by omega
      rw [this, nd_ix_sh hft h] at hp
      omega
theorem nd_cut_dep {mk n f t : Nat} {D : Nat → nd} (ok : nd_ok mk n D) (hft : f ≤ t) (ht : t ≤ n) (cl : nd_cl n D f t) : ∀ i, i < n - (t - f) → mp_dep (fun k => (nd_cut D f t k).2.2.1) i = mp_dep (fun k => (D k).2.2.1) (nd_ix f t i) := by
  have h1 : ∀ k, k < n → ∀ p, (fun k => (D k).2.2.1) k = some p → p < k := fun k hk p hp => (ok.2 k hk).2.2.1 p hp
  have h2 : ∀ k, k < n - (t - f) → ∀ p, (fun k => (nd_cut D f t k).2.2.1) k = some p → p < k := by
    intro k hk p hp
    have hx := nd_ix_lt hft ht hk
    have hp2 : ((D (nd_ix f t k)).2.2.1).map (nd_sh f t) = some p := hp
    cases e : (D (nd_ix f t k)).2.2.1 with
    | none => rw [e] at hp2; cases hp2
    | some q =>
      rw [e] at hp2
      cases hp2
      exact nd_sh_lt hft (cl _ hx.1 hx.2 q e) (h1 _ hx.1 q e)
  intro i
  induction i using Nat.strongRecOn with
  | _ i ih =>
    intro hi
    have hx := nd_ix_lt hft ht hi
    cases e : (D (nd_ix f t i)).2.2.1 with
    | none =>
      rw [mp_dep_none (pa := fun k => (D k).2.2.1) e, mp_dep_none (pa := fun k => (nd_cut D f t k).2.2.1) (show ((D (nd_ix f t i)).2.2.1).map (nd_sh f t) = none by rw [e]; rfl)]
    | some q =>
      have hq := h1 _ hx.1 q e
      have hc := cl _ hx.1 hx.2 q e
      have hl := nd_sh_lt hft hc hq
      rw [mp_dep_some (pa := fun k => (D k).2.2.1) h1 hx.1 e, mp_dep_some (pa := fun k => (nd_cut D f t k).2.2.1) h2 hi (show ((D (nd_ix f t i)).2.2.1).map (nd_sh f t) = some (nd_sh f t q) by rw [e]; rfl), ih _ hl (by omega), nd_ix_sh hft hc]
theorem nd_cut_ok {mk n f t : Nat} {D : Nat → nd} (ok : nd_ok mk n D) (h0 : 0 < f) (hft : f ≤ t) (ht : t ≤ n) (cl : nd_cl n D f t) : nd_ok mk (n - (t - f)) (nd_cut D f t) := by
  refine ⟨by have := ok.1; omega, fun i hi => ?_⟩
  have hx := nd_ix_lt hft ht hi
  have o := ok.2 _ hx.1
  refine ⟨o.1, o.2.1, fun p hp => ?_, o.2.2.2.1, o.2.2.2.2.1, o.2.2.2.2.2.1, o.2.2.2.2.2.2.1, o.2.2.2.2.2.2.2.1, fun hp => ?_⟩
  · have hp2 : ((D (nd_ix f t i)).2.2.1).map (nd_sh f t) = some p := hp
    cases e : (D (nd_ix f t i)).2.2.1 with
    | none => rw [e] at hp2; cases hp2
    | some q =>
      rw [e] at hp2
      cases hp2
      exact nd_sh_lt hft (cl _ hx.1 hx.2 q e) (o.2.2.1 q e)
  · have hp2 : ((D (nd_ix f t i)).2.2.1).map (nd_sh f t) = none := hp
    have e : (D (nd_ix f t i)).2.2.1 = none := by
      cases e : (D (nd_ix f t i)).2.2.1 with
      | none => rfl
      | some q => rw [e] at hp2; cases hp2
    have := o.2.2.2.2.2.2.2.2 e
    unfold nd_ix at this
    by_cases q : i < f
    · rw [if_pos q] at this; exact this
    · rw [if_neg q] at this; omega
theorem nd_cut_inj {n f t : Nat} {D : Nat → nd} (h : nd_inj n D) (hft : f ≤ t) (ht : t ≤ n) : nd_inj (n - (t - f)) (nd_cut D f t) := fun i j hi hj e => nd_ix_inj (h _ _ (nd_ix_lt hft ht hi).1 (nd_ix_lt hft ht hj).1 e)
theorem nd_cut_pre {mk n f t : Nat} {D : Nat → nd} (ok : nd_ok mk n D) (h : nd_pre n D) (hft : f ≤ t) (ht : t ≤ n) (cl : nd_cl n D f t) : nd_pre (n - (t - f)) (nd_cut D f t) := by
  intro i hi p hp
  have hx := nd_ix_lt hft ht hi
  have hp2 : ((D (nd_ix f t i)).2.2.1).map (nd_sh f t) = some p := hp
  cases e : (D (nd_ix f t i)).2.2.1 with
  | none => rw [e] at hp2; cases hp2
  | some q =>
    rw [e] at hp2
    cases hp2
    have hc := cl _ hx.1 hx.2 q e
    have hq := (ok.2 _ hx.1).2.2.1 q e
    have hs := nd_sh_lt hft hc hq
    obtain ⟨k1, k2⟩ := h _ hx.1 q e
    refine ⟨?_, fun j h1 h2 => ?_⟩
    · show (D (nd_ix f t (nd_sh f t q))).2.1 = 1
      rw [nd_ix_sh hft hc]; exact k1
    · rw [nd_cut_dep ok hft ht cl _ (by omega), nd_cut_dep ok hft ht cl _ (by omega), nd_ix_sh hft hc]
      refine k2 _ ?_ (nd_ix_mono h2)
      have := nd_ix_mono (f := f) (t := t) h1
      rw [nd_ix_sh hft hc] at this
      exact this
theorem nd_set_pre {n k : Nat} {D : Nat → nd} {t : List Nat} (h : nd_pre n D) : nd_pre n (nd_set D k t) := by
  intro i hi p hp
  have e : (D i).2.2.1 = some p := by rw [← hp]; exact (congrFun (nd_set_pa (D := D) (k := k) (t := t)) i).symm
  rw [nd_set_pa]
  obtain ⟨k1, k2⟩ := h i hi p e
  refine ⟨?_, k2⟩
  rw [← k1]
  unfold nd_set
  by_cases q : p = k
  · rw [if_pos q]
  · rw [if_neg q]
theorem nd_set_inj {n k : Nat} {D : Nat → nd} {t : List Nat} (h : nd_inj n D) : nd_inj n (nd_set D k t) := by
  have e : ∀ i, (nd_set D k t i).1 = (D i).1 := fun i => by
    unfold nd_set
    by_cases q : i = k
    · rw [if_pos q]
    · rw [if_neg q]
  intro i j hi hj q
  rw [e, e] at q
  exact h i j hi hj q
/-- the end of a node: from there on nothing lies below it -/
theorem mp_end_spec {pa : Nat → Option Nat} {n k : Nat} (hk : k < n) : k < mp_end pa n k ∧ mp_end pa n k ≤ n ∧ (∀ j, k < j → j < mp_end pa n k → mp_dep pa k < mp_dep pa j) ∧ (mp_end pa n k < n → mp_dep pa (mp_end pa n k) ≤ mp_dep pa k) := by
  unfold mp_end mp_endX
  have nP : ∀ (m e j : Nat), e ≤ j → (∀ q, mp_fst (fun j => decide (mp_dep pa j ≤ mp_dep pa k)) m e = some q → j < q) → j < e + m → mp_dep pa k < mp_dep pa j := by
    intro m
    induction m with
    | zero => intro e j h1 _ h2; omega
    | succ m ih =>
      intro e j h1 h2 h3
      by_cases q : mp_dep pa e ≤ mp_dep pa k
      · have := h2 e (by simp only [mp_fst, q, decide_true, if_true])
        omega
      · by_cases q2 : j = e
        · rw [q2]; omega
        · refine ih (e + 1) j (by omega) (fun w hw => h2 w ?_) (by omega)
          simp only [mp_fst, q, decide_false, Bool.false_eq_true, if_false]
          exact hw
  cases e : mp_fst (fun j => decide (mp_dep pa j ≤ mp_dep pa k)) (n - (k + 1)) (k + 1) with
  | none =>
    simp only []
    exact ⟨hk, Nat.le_refl _, fun j h1 h2 => nP (n - (k + 1)) (k + 1) j (by omega) (fun q hq => by rw [e] at hq; cases hq) (by omega), fun h => absurd h (Nat.lt_irrefl _)⟩
  | some q =>
    have := mp_fst_some _ _ e
    simp only []
    exact ⟨by omega, by omega, fun j h1 h2 => nP (n - (k + 1)) (k + 1) j (by omega) (fun w hw => by rw [e] at hw; cases hw; exact h2) (by omega), fun _ => of_decide_eq_true this.2⟩
/-- a node with all below it: no parent of who stays goes -/
theorem nd_end_cl {mk n k : Nat} {D : Nat → nd} (ok : nd_ok mk n D) (h : nd_pre n D) (hk : k < n) : nd_cl n D k (mp_end (fun k => (D k).2.2.1) n k) := by
  obtain ⟨e1, e2, e3, e4⟩ := mp_end_spec (pa := fun k => (D k).2.2.1) hk
  have h1 : ∀ k, k < n → ∀ p, (fun k => (D k).2.2.1) k = some p → p < k := fun k hk p hp => (ok.2 k hk).2.2.1 p hp
  intro i hi hq p hp
  have hpi := h1 i hi p hp
  rcases hq with q | q
  · exact Or.inl (by omega)
  · rcases Nat.lt_or_ge p k with w | w
    · exact Or.inl w
    rcases Nat.lt_or_ge p (mp_end (fun k => (D k).2.2.1) n k) with w2 | w2
    · exfalso
      have d0 := e4 (by omega)
      have dp : mp_dep (fun k => (D k).2.2.1) k ≤ mp_dep (fun k => (D k).2.2.1) p := by
        rcases Nat.eq_or_lt_of_le w with q3 | q3
        · rw [q3]; exact Nat.le_refl _
        · exact Nat.le_of_lt (e3 p q3 w2)
      have ds := mp_dep_some (pa := fun k => (D k).2.2.1) h1 hi hp
      rcases Nat.eq_or_lt_of_le q with q3 | q3
      · rw [← q3] at ds; omega
      · have := (h i hi p hp).2 _ w2 q3
        omega
    · exact Or.inr w2
/-- a text that follows goes too: it is nobody's parent -/
theorem nd_end_cl1 {mk n k : Nat} {D : Nat → nd} (ok : nd_ok mk n D) (h : nd_pre n D) (hk : k < n) (he : mp_end (fun k => (D k).2.2.1) n k < n) (ht : (D (mp_end (fun k => (D k).2.2.1) n k)).2.1 ≠ 1) : nd_cl n D k (mp_end (fun k => (D k).2.2.1) n k + 1) := by
  intro i hi hq p hp
  rcases hq with q | q
  · exact Or.inl (by have := (ok.2 i hi).2.2.1 p hp; omega)
  · rcases nd_end_cl ok h hk i hi (Or.inr (by omega)) p hp with w | w
    · exact Or.inl w
    · rcases Nat.eq_or_lt_of_le w with q2 | q2
      · exact absurd (by rw [q2]; exact (h i hi p hp).1) ht
      · exact Or.inr q2
/-- the next node with the same parent stands right at the end -/
theorem nd_right {mk n k r p : Nat} {D : Nat → nd} (ok : nd_ok mk n D) (h : nd_pre n D) (hk : k < n) (hp : (D k).2.2.1 = some p) (hr : r < n) (hkr : k < r) (hrp : (D r).2.2.1 = some p) : mp_end (fun k => (D k).2.2.1) n k ≤ r ∧ (D (mp_end (fun k => (D k).2.2.1) n k)).2.2.1 = some p := by
  obtain ⟨e1, e2, e3, e4⟩ := mp_end_spec (pa := fun k => (D k).2.2.1) hk
  have h1 : ∀ k, k < n → ∀ p, (fun k => (D k).2.2.1) k = some p → p < k := fun k hk p hp => (ok.2 k hk).2.2.1 p hp
  have dk := mp_dep_some (pa := fun k => (D k).2.2.1) h1 hk hp
  have dr := mp_dep_some (pa := fun k => (D k).2.2.1) h1 hr hrp
  have hpk := h1 k hk p hp
  have hle : mp_end (fun k => (D k).2.2.1) n k ≤ r := by
    rcases Nat.lt_or_ge r (mp_end (fun k => (D k).2.2.1) n k) with q | q
    · have := e3 r hkr q; omega
    · exact q
  refine ⟨hle, ?_⟩
  rcases Nat.eq_or_lt_of_le hle with q | q
  · rw [q]; exact hrp
  · generalize mp_end (fun k => (D k).2.2.1) n k = e at *
    have d1 := (h r hr p hrp).2 e (by omega) q
    have d2 := e4 (by omega)
    have de : mp_dep (fun k => (D k).2.2.1) e = mp_dep (fun k => (D k).2.2.1) p + 1 := by omega
    cases ee : (D e).2.2.1 with
    | none =>
      have := (ok.2 e (by omega)).2.2.2.2.2.2.2.2 ee
      omega
    | some w =>
      have hw := h1 e (by omega) w ee
      have dw := mp_dep_some (pa := fun k => (D k).2.2.1) h1 (show e < n by omega) ee
      rcases Nat.lt_trichotomy w p with q3 | q3 | q3
      · have := (h e (by omega) w ee).2 p q3 (by omega); omega
      · rw [q3]
      · have := (h r hr p hrp).2 w q3 (by omega); omega
