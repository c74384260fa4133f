-- the class: ends and children in the tree
section CP3
variable {dA : Nat → ClassId} {h : hm_T} {z : hz_T} {a aM aO aE mk n m : Nat} {N B E : Nat → Nat} {J : Nat → Int32 × Option Nat × Int32 × Nat × Nat × Int32} {V : Nat → Int32 × Nat × Nat} {pa : Nat → Option Nat}
theorem cp_endL (T : cp_T dA h a aM aO aE mk n m N B E J V) (hd : ∀ j, j < n → (J (B j)).2.2.1 = nI (mp_dep pa j) ∧ mp_dep pa j < 2 ^ 31) {k : Nat} (hk : k < n) {K : Int32 → hm_T → hz_T → Prop} : ∀ (r fu e : Nat), e + r = n → r < fu → K (nI (mp_endX pa n (mp_dep pa k) r e)) h z → w_Tree_endOf_7 dA a K fu (some (B k)) (nI e) h z := by
  have hb := T.2.2.2.2.2.2.2.2.2.2
  obtain ⟨f, hO, hf⟩ := T.2.2.1
  intro r
  induction r with
  | zero =>
    intro fu e he hr hK
    obtain ⟨fu, rfl⟩ : ∃ f, fu = f + 1 := ⟨fu - 1, by omega⟩
    obtain rfl : e = n := by omega
    unfold w_Tree_endOf_7
    refine cg_I_of T.1 rfl (if_yes (nI_le (Nat.le_refl _) (by omega)) ?_)
    exact hK
  | succ r ih =>
    intro fu e he hr hK
    obtain ⟨fu, rfl⟩ : ∃ f, fu = f + 1 := ⟨fu - 1, by omega⟩
    have d1 := hd e (by omega)
    have d2 := hd k hk
    unfold w_Tree_endOf_7
    refine cg_I_of T.1 rfl (if_no (nI_ge (by omega) (by omega)) (cg_R_ref T.1 rfl (cg_d_of (cg_ar_of hO (by omega) (by omega) (hf e (by omega)) (cg_d_of (cg_I_of (cp_nB T (by omega)) rfl (cg_d_of (cg_I_of (cp_nB T hk) rfl ?_))))))))
    rw [d1.1, d2.1]
    by_cases hc : mp_dep pa e ≤ mp_dep pa k
    · refine if_yes (nI_le hc (by omega)) ?_
      unfold mp_endX at hK
      simp only [mp_fst, hc, decide_true, if_true] at hK
      exact hK
    · refine if_no (nI_ge (by omega) (by omega)) ?_
      rw [nI_1]
      refine ih fu (e + 1) (by omega) (by omega) ?_
      unfold mp_endX at hK ⊢
      simpa only [mp_fst, hc, decide_false, if_false, Bool.false_eq_true] using hK
theorem cp_endOf (T : cp_T dA h a aM aO aE mk n m N B E J V) (P : cp_P mk n N B J V) (hd : ∀ j, j < n → (J (B j)).2.2.1 = nI (mp_dep pa j) ∧ mp_dep pa j < 2 ^ 31) {k : Nat} (hk : k < n) {K : Int32 → hm_T → hz_T → Prop} (hK : K (nI (mp_end pa n k)) h z) : w_Tree_endOf dA a (some (B k)) K h z := by
  have hb := T.2.2.2.2.2.2.2.2.2.2
  unfold w_Tree_endOf
  refine cg_d_of (cg_I_of (cp_nB T hk) rfl ?_)
  rw [P.2.1 k hk, nI_1]
  exact cp_endL T hd hk (n - (k + 1)) mF (k + 1) (by omega) (by unfold mF; omega) hK
theorem mp_lst_none {P : Nat → Bool} : ∀ k : Nat, (∀ j, j < k → P j = false) → mp_lst P k = none := by
  intro k
  induction k with
  | zero => intro _; rfl
  | succ k ih =>
    intro hP
    unfold mp_lst
    rw [hP k (by omega)]
    exact ih (fun j hj => hP j (by omega))
theorem cp_cbL (T : cp_T dA h a aM aO aE mk n m N B E J V) {x p : Nat} (hx : ∃ e, h x = some (.inr (8, e)) ∧ e[6]? = some (.int (nI p))) (hp : p < 40) (hc : ∀ k, k < n → (J (B k)).2.1 = some x → p < k) {K : Option Nat → hm_T → hz_T → Prop} : ∀ (k fu : Nat), k ≤ n → k < fu → K ((mp_lst (fun k => decide ((J (B k)).2.1 = some x)) k).map B) h z → w_Tree_childBefore_4 dA a K fu (some x) (nI k + -1) h z := by
  have hb := T.2.2.2.2.2.2.2.2.2.2
  obtain ⟨f, hO, hf⟩ := T.2.2.1
  obtain ⟨e9, hx1, hx2⟩ := hx
  intro k
  induction k with
  | zero =>
    intro fu hk hr hK
    obtain ⟨fu, rfl⟩ : ∃ f, fu = f + 1 := ⟨fu - 1, by omega⟩
    unfold w_Tree_childBefore_4
    refine cg_d_of (cg_I_of hx1 hx2 (if_yes ?_ hK))
    apply Int32.le_iff_toInt_le.mpr
    rw [nI_toInt (by omega), show (nI 0 + -1 : Int32).toInt = -1 by decide]
    omega
  | succ k ih =>
    intro fu hk hr hK
    obtain ⟨fu, rfl⟩ : ∃ f, fu = f + 1 := ⟨fu - 1, by omega⟩
    have e1 : nI (k + 1) + -1 = nI k := by rw [← nI_1, Int32.add_assoc, show (1 : Int32) + -1 = 0 by decide, Int32.add_zero]
    unfold w_Tree_childBefore_4
    rw [e1]
    refine cg_d_of (cg_I_of hx1 hx2 ?_)
    by_cases hkp : k ≤ p
    · refine if_yes (nI_le hkp (by omega)) ?_
      rw [mp_lst_none (k + 1) (fun j hj => decide_eq_false (fun q => by have := hc j (by omega) q; omega))] at hK
      exact hK
    · refine if_no (nI_ge (by omega) (by omega)) (cg_R_ref T.1 rfl (cg_d_of (cg_ar_of hO (by omega) (by omega) (hf k (by omega)) (cg_d_of (cg_R_of (cp_nB T (by omega)) rfl ?_)))))
      by_cases hq : (J (B k)).2.1 = some x
      · refine if_yes hq (cg_R_ref T.1 rfl (cg_d_of (cg_ar_of hO (by omega) (by omega) (hf k (by omega)) ?_)))
        simpa [mp_lst, hq] using hK
      · refine if_no hq (ih fu (by omega) (by omega) ?_)
        simpa [mp_lst, hq] using hK
theorem cp_childBefore (T : cp_T dA h a aM aO aE mk n m N B E J V) {x p : Nat} (hx : ∃ e, h x = some (.inr (8, e)) ∧ e[6]? = some (.int (nI p))) (hp : p < 40) (hc : ∀ k, k < n → (J (B k)).2.1 = some x → p < k) {t : Nat} (ht : t ≤ n) {K : Option Nat → hm_T → hz_T → Prop} (hK : K ((mp_lst (fun k => decide ((J (B k)).2.1 = some x)) t).map B) h z) : w_Tree_childBefore dA a (some x) (nI t) K h z := by
  have hb := T.2.2.2.2.2.2.2.2.2.2
  unfold w_Tree_childBefore
  rw [show nI t - 1 = nI t + -1 from by rw [Int32.sub_eq_add_neg]]
  exact cp_cbL T hx hp hc t mF ht (by unfold mF; omega) hK
theorem cp_cfL (T : cp_T dA h a aM aO aE mk n m N B E J V) (o : Option Nat) {K : Option Nat → hm_T → hz_T → Prop} : ∀ (r fu k : Nat), k + r = n → r < fu → K ((mp_fst (fun k => decide ((J (B k)).2.1 = o)) r k).map B) h z → w_Tree_childFrom_2 dA a K fu o (nI k) h z := by
  have hb := T.2.2.2.2.2.2.2.2.2.2
  obtain ⟨f, hO, hf⟩ := T.2.2.1
  intro r
  induction r with
  | zero =>
    intro fu k hk hr hK
    obtain ⟨fu, rfl⟩ : ∃ f, fu = f + 1 := ⟨fu - 1, by omega⟩
    obtain rfl : k = n := by omega
    unfold w_Tree_childFrom_2
    exact cg_I_of T.1 rfl (if_yes (nI_le (Nat.le_refl _) (by omega)) hK)
  | succ r ih =>
    intro fu k hk hr hK
    obtain ⟨fu, rfl⟩ : ∃ f, fu = f + 1 := ⟨fu - 1, by omega⟩
    unfold w_Tree_childFrom_2
    refine cg_I_of T.1 rfl (if_no (nI_ge (by omega) (by omega)) (cg_R_ref T.1 rfl (cg_d_of (cg_ar_of hO (by omega) (by omega) (hf k (by omega)) (cg_d_of (cg_R_of (cp_nB T (by omega)) rfl ?_))))))
    by_cases hq : (J (B k)).2.1 = o
    · refine if_yes hq (cg_R_ref T.1 rfl (cg_d_of (cg_ar_of hO (by omega) (by omega) (hf k (by omega)) ?_)))
      simpa [mp_fst, hq] using hK
    · refine if_no hq ?_
      rw [nI_1]
      refine ih fu (k + 1) (by omega) (by omega) ?_
      simpa [mp_fst, hq] using hK
theorem cp_childFrom (T : cp_T dA h a aM aO aE mk n m N B E J V) (o : Option Nat) {t : Nat} (ht : t ≤ n) {K : Option Nat → hm_T → hz_T → Prop} (hK : K ((mp_fst (fun k => decide ((J (B k)).2.1 = o)) (n - t) t).map B) h z) : w_Tree_childFrom dA a o (nI t) K h z := by
  have hb := T.2.2.2.2.2.2.2.2.2.2
  unfold w_Tree_childFrom
  exact cp_cfL T o (n - t) mF t (by omega) (by unfold mF; omega) hK
end CP3
