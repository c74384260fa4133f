-- the class's small answers
/-- the store's cell -/
def cp_S (h : hm_T) (y bu sc a fo : Nat) (fs ch : Int32) : Prop := h y = some (.inr (0, [.ref bu, .ref sc, .ref a, .ref fo, .int fs, .int ch]))
section CP2
variable {dA : Nat → ClassId} {h : hm_T} {z : hz_T} {y bu sc fo a aM aO aE mk n m : Nat} {fs ch : Int32} {N B E : Nat → Nat} {J : Nat → Int32 × Option Nat × Int32 × Nat × Nat × Int32} {V : Nat → Int32 × Nat × Nat}
theorem cp_kind_some (S : cp_S h y bu sc a fo fs ch) (T : cp_T dA h a aM aO aE mk n m N B E J V) (P : cp_P mk n N B J V) {k i : Nat} (hk : k < n) (hi : i < mk) (e : N i = B k) {K : Int32 → hm_T → hz_T → Prop} (hK : K (J (B k)).1 h z) : w_Store_kind dA y (nI i) K h z := by
  unfold w_Store_kind
  exact cg_R_ref S rfl (cg_d_of (cg_c_of T.1 (cp_find_some T P hk hi e (if_no (by simp) (cg_d_of (cg_I_of (cp_nB T hk) rfl hK))))))
theorem cp_kind_none (S : cp_S h y bu sc a fo fs ch) (T : cp_T dA h a aM aO aE mk n m N B E J V) (P : cp_P mk n N B J V) {x : Int32} (hy : ∀ i k, i < mk → k < n → N i = B k → x ≠ nI i) {K : Int32 → hm_T → hz_T → Prop} (hK : K (-1000) h z) : w_Store_kind dA y x K h z := by
  unfold w_Store_kind
  exact cg_R_ref S rfl (cg_d_of (cg_c_of T.1 (cp_find_none T P hy (if_yes rfl hK))))
theorem cp_nodes (S : cp_S h y bu sc a fo fs ch) (T : cp_T dA h a aM aO aE mk n m N B E J V) {K : Int32 → hm_T → hz_T → Prop} (hK : K (nI n) h z) : w_Store_nodes dA y K h z := by
  unfold w_Store_nodes
  exact cg_R_ref S rfl (cg_d_of (cg_I_of T.1 rfl hK))
theorem cp_root (S : cp_S h y bu sc a fo fs ch) (T : cp_T dA h a aM aO aE mk n m N B E J V) {K : Int32 → hm_T → hz_T → Prop} (hK : K (if n = 0 then -1000 else (J (B 0)).2.2.2.2.2) h z) : w_Store_root dA y K h z := by
  have hb := T.2.2.2.2.2.2.2.2.2.2
  obtain ⟨f, hO, hf⟩ := T.2.2.1
  unfold w_Store_root
  refine cg_R_ref S rfl (cg_d_of (cg_I_of T.1 rfl ?_))
  by_cases h0 : n = 0
  · subst h0
    rw [if_pos rfl] at hK
    exact if_yes rfl hK
  · rw [if_neg h0] at hK
    refine if_no (nI_ne (b := 0) (by omega) (by omega) h0) (cg_R_ref S rfl (cg_d_of (cg_R_ref T.1 rfl (cg_d_of (cg_ar_of (j := 0) hO (by omega) (by omega) (hf 0 (by omega)) (cg_d_of (cg_I_of (cp_nB T (by omega)) rfl hK)))))))
theorem cp_result (S : cp_S h y bu sc a fo (nI m) ch) (hm : m ≤ 40) {g : Nat → Int32} (hf : h fo = some (.inl (dA 0, 40, .inl g))) {x : Int32} {K : Int32 → hm_T → hz_T → Prop} (hK : K (if x < 0 then -1000 else if nI m ≤ x then -1000 else g x.toNatClampNeg) h z) : w_Store_result dA y x K h z := by
  unfold w_Store_result
  by_cases h0 : x < 0
  · rw [if_pos h0] at hK
    exact if_yes h0 hK
  rw [if_neg h0] at hK
  refine if_no h0 (cg_I_of S rfl ?_)
  by_cases h1 : nI m ≤ x
  · rw [if_pos h1] at hK
    exact if_yes h1 hK
  rw [if_neg h1] at hK
  refine if_no h1 (cg_R_ref S rfl (cg_d_of ⟨40, g, hf, ?_, hK⟩))
  rintro (q | q)
  · exact h0 q
  · have h2 := Int32.lt_iff_toInt_lt.mp (Int32.not_le.mp h1)
    rw [nI_toInt (by omega)] at h2
    have q2 : 40 ≤ x.toInt.toNat := q
    omega
theorem cp_letter_some (S : cp_S h y bu sc a fo fs ch) (T : cp_T dA h a aM aO aE mk n m N B E J V) (P : cp_P mk n N B J V) {k i u : Nat} {xs : List Nat} (hk : k < n) (hi : i < mk) (e : N i = B k) (hz : z (V (B k)).2.1 = some (u, xs)) (hx : xs.length < 2 ^ 31) (hc : ∀ c ∈ xs, c < 128) {x : Int32} {K : Int32 → hm_T → hz_T → Prop} (hK : K (if x < 0 then 0 else if x < nI xs.length then nI (xs.getD x.toNatClampNeg 0) else 0) h z) : w_Store_letter dA y (nI i) x K h z := by
  unfold w_Store_letter
  refine cg_R_ref S rfl (cg_d_of (cg_c_of T.1 (cp_find_some T P hk hi e (if_no (by simp) ?_))))
  by_cases h0 : x < 0
  · rw [if_pos h0] at hK
    exact if_yes h0 hK
  rw [if_neg h0] at hK
  refine if_no h0 (cg_d_of (cg_R_ref (cp_nB T hk) rfl (cg_d_of ⟨u, xs, hz, ?_⟩)))
  by_cases h1 : x < nI xs.length
  · rw [if_pos h1] at hK
    have hp : (0 : Int) ≤ x.toInt := by simpa using Int32.le_iff_toInt_le.mp (Int32.not_lt.mp h0)
    have h2 := Int32.lt_iff_toInt_lt.mp h1
    rw [nI_toInt hx] at h2
    have hc2 : x.toNatClampNeg = x.toInt.toNat := rfl
    refine if_yes h1 (cg_d_of (cg_R_ref (cp_nB T hk) rfl (cg_d_of ⟨u, xs, x.toNatClampNeg, hz, ?_, by omega, hx, hc, hK⟩)))
    apply Int32.toInt_inj.mp
    rw [nI_toInt (by omega)]
    omega
  · rw [if_neg h1] at hK
    exact if_no h1 hK
theorem cp_letter_none (S : cp_S h y bu sc a fo fs ch) (T : cp_T dA h a aM aO aE mk n m N B E J V) (P : cp_P mk n N B J V) {x x2 : Int32} (hy : ∀ i k, i < mk → k < n → N i = B k → x ≠ nI i) {K : Int32 → hm_T → hz_T → Prop} (hK : K 0 h z) : w_Store_letter dA y x x2 K h z := by
  unfold w_Store_letter
  exact cg_R_ref S rfl (cg_d_of (cg_c_of T.1 (cp_find_none T P hy (if_yes rfl hK))))
theorem cp_label_some (S : cp_S h y bu sc a fo fs ch) (T : cp_T dA h a aM aO aE mk n m N B E J V) (P : cp_P mk n N B J V) {k i r : Nat} {g : Nat → Int32} (hk : k < n) (hi : i < mk) (e : N i = B k) (hl : h (J (B k)).2.2.2.1 = some (.inl (dA 0, r, .inl g))) (hr : r < 2 ^ 31) {x : Int32} {K : Int32 → hm_T → hz_T → Prop} (hK : K (if x < 0 then 0 else if x < nI r then g x.toNatClampNeg else 0) h z) : w_Store_label dA y (nI i) x K h z := by
  unfold w_Store_label
  refine cg_R_ref S rfl (cg_d_of (cg_c_of T.1 (cp_find_some T P hk hi e (if_no (by simp) ?_))))
  by_cases h0 : x < 0
  · rw [if_pos h0] at hK
    exact if_yes h0 hK
  rw [if_neg h0] at hK
  refine if_no h0 (cg_d_of (cg_R_ref (cp_nB T hk) rfl (cg_d_of (cg_al_of hl ?_))))
  by_cases h1 : x < nI r
  · rw [if_pos h1] at hK
    have h2 := Int32.lt_iff_toInt_lt.mp h1
    rw [nI_toInt hr] at h2
    have hp : (0 : Int) ≤ x.toInt := by simpa using Int32.le_iff_toInt_le.mp (Int32.not_lt.mp h0)
    refine if_yes h1 (cg_d_of (cg_R_ref (cp_nB T hk) rfl (cg_d_of ⟨r, g, hl, ?_, hK⟩)))
    rintro (q | q)
    · exact h0 q
    · have q2 : r ≤ x.toInt.toNat := q
      omega
  · rw [if_neg h1] at hK
    exact if_no h1 hK
theorem cp_label_none (S : cp_S h y bu sc a fo fs ch) (T : cp_T dA h a aM aO aE mk n m N B E J V) (P : cp_P mk n N B J V) {x x2 : Int32} (hy : ∀ i k, i < mk → k < n → N i = B k → x ≠ nI i) {K : Int32 → hm_T → hz_T → Prop} (hK : K 0 h z) : w_Store_label dA y x x2 K h z := by
  unfold w_Store_label
  exact cg_R_ref S rfl (cg_d_of (cg_c_of T.1 (cp_find_none T P hy (if_yes rfl hK))))
theorem cp_cwL (T : cp_T dA h a aM aO aE mk n m N B E J V) (o : Option Nat) {t : Nat} (ht : t ≤ n) {K : Int32 → hm_T → hz_T → Prop} (hK : K (nI (mp_cn (fun k => decide ((J (B k)).2.1 = o)) t)) h z) : ∀ (r fu k : Nat), k + r = t → r < fu → w_Tree_childrenWithin_6 dA a K fu o (nI t) (nI (mp_cn (fun k => decide ((J (B k)).2.1 = o)) k)) (nI k) h z := by
  have hb := T.2.2.2.2.2.2.2.2.2.2
  obtain ⟨f, hO, hf⟩ := T.2.2.1
  intro r
  induction r with
  | zero =>
    intro fu k hk hr
    obtain ⟨fu, rfl⟩ : ∃ f, fu = f + 1 := ⟨fu - 1, by omega⟩
    obtain rfl : k = t := by omega
    unfold w_Tree_childrenWithin_6
    exact if_yes (nI_le (Nat.le_refl _) (by omega)) hK
  | succ r ih =>
    intro fu k hk hr
    obtain ⟨fu, rfl⟩ : ∃ f, fu = f + 1 := ⟨fu - 1, by omega⟩
    have i1 := ih fu (k + 1) (by omega) (by omega)
    unfold w_Tree_childrenWithin_6
    refine if_no (nI_ge (by omega) (by omega)) (cg_R_ref T.1 rfl (cg_d_of (cg_ar_of hO (by omega) (by omega) (hf k (by omega)) (cg_d_of (cg_R_of (cp_nB T (by omega)) rfl ?_)))))
    by_cases hc : (J (B k)).2.1 = o
    · refine if_yes hc ?_
      unfold w_Tree_childrenWithin_29
      rw [nI_1, nI_1]
      simpa [mp_cn, hc] using i1
    · refine if_no hc ?_
      unfold w_Tree_childrenWithin_29
      rw [nI_1]
      simpa [mp_cn, hc] using i1
theorem cp_cw (T : cp_T dA h a aM aO aE mk n m N B E J V) (o : Option Nat) {t : Nat} (ht : t ≤ n) {K : Int32 → hm_T → hz_T → Prop} (hK : K (nI (mp_cn (fun k => decide ((J (B k)).2.1 = o)) t)) h z) : w_Tree_childrenWithin dA a o 0 (nI t) K h z := by
  have hb := T.2.2.2.2.2.2.2.2.2.2
  unfold w_Tree_childrenWithin
  exact cp_cwL T o ht hK t mF 0 (by omega) (by unfold mF; omega)
end CP2
