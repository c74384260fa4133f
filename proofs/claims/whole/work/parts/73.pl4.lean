-- reading: lists
theorem sh_half : ∀ n : Fin 201, nI n.1 >>> ((1 : Int32) &&& 31) = nI (n.1 / 2) := by decide +kernel
section PL4
variable {dA : Nat → ClassId} {h : hm_T} {z : hz_T} {q d x : Nat} {as : List Nat}
theorem jo.mo {h h1 : hm_T} {Y : Nat → Prop} {x : Nat} (j : jo h x) (M : hm_mo h h1 Y) (hx : ¬ Y x) : jo h1 x := by
  obtain ⟨ci, fs, c, r⟩ := j
  exact ⟨ci, fs, M _ _ c hx, r⟩
/-- an object that may lie in a list is none of a list's cells -/
theorem jo.neq {h : hm_T} {x b : Nat} {e : va_E} (j : jo h x) (c : h b = some e) (ht : Nat.beq (hm_tag e) 8 = false ∧ Nat.beq (hm_tag e) 9 = false ∧ Nat.beq (hm_tag e) 12 = false ∧ Nat.beq (hm_tag e) 13 = false) : x ≠ b := by
  obtain ⟨ci, fs, c1, r⟩ := j
  rintro rfl
  rw [c] at c1
  cases c1
  rcases r with r | r | r | r <;> subst r
  · exact absurd ht.1 (by simp [hm_tag])
  · exact absurd ht.2.1 (by simp [hm_tag])
  · exact absurd ht.2.2.1 (by simp [hm_tag])
  · exact absurd ht.2.2.2 (by simp [hm_tag])
/-- the last step of add: the element into the array, one more -/
theorem ja_add11 {mo : Int32} {n k : Nat} {f : Nat → Option Nat} (c1 : h q = some (.inr (4, [.int mo, .ref d, .int (nI k)]))) (c2 : h d = some (.inl (dA 6, n, .inr (.inr (.inr (.inr f)))))) (hk : k < n) (hn : n ≤ 200) (jx : jo h x) {c s : Nat} {K : hm_T → hz_T → Prop} (hK : ∀ h1, h1 q = some (.inr (4, [.int mo, .ref d, .int (nI (k + 1))])) → h1 d = some (.inl (dA 6, n, .inr (.inr (.inr (.inr (va_up f k (some x))))))) → hm_mo h h1 (fun b => b = q ∨ b = d) → K h1 z) : w_AL_add3_11 dA q K (some x) (some d) (nI k) c s h z := by
  unfold w_AL_add3_11
  refine cg_d_of (cg_d_of ⟨jx, n, f, c2, vp_inI hk (by omega), ?_⟩)
  rw [nI_clamp (by omega)]
  have n1 : q ≠ d := hm_ne c1 c2 rfl
  have c3 : (hm_u h d (.inl (dA 6, n, .inr (.inr (.inr (.inr (va_up f k (some x))))))) : hm_T) q = some (.inr (4, [.int mo, .ref d, .int (nI k)])) := by rw [hm_n n1]; exact c1
  refine cg_p_of c3 (show 2 < 3 by decide) ?_
  rw [nI_1]
  refine hK _ hm_s ?_ (((hm_mo.u (Or.inr rfl)) : hm_mo h _ (fun b => b = q ∨ b = d)).trans (hm_mo.u (Or.inl rfl)))
  rw [hm_n (Ne.symm n1)]
  exact hm_s
theorem getD_app_l {as : List Nat} {x i : Nat} (h : i < as.length) : (as ++ [x]).getD i 0 = as.getD i 0 := by
  rw [List.getD_eq_getElem?_getD, List.getElem?_append_left h, ← List.getD_eq_getElem?_getD]
theorem getD_app_r {as : List Nat} {x : Nat} : (as ++ [x]).getD as.length 0 = x := by
  rw [List.getD_eq_getElem?_getD, List.getElem?_append_right (Nat.le_refl _), Nat.sub_self]
  rfl
theorem ja_add (j : ja dA h q d as) (hl : as.length ≤ 130) (jx : jo h x) (ja1 : ∀ i, i < as.length → jo h (as.getD i 0)) {c s : Nat} (hc : 1 ≤ c) (hs : 200 ≤ s) {K : Int32 → hm_T → hz_T → Prop} (hK : ∀ h1 d1, ja dA h1 q d1 (as ++ [x]) → ((d1 = d ∧ as ≠ []) ∨ h d1 = none) → hm_mo h h1 (fun b => b = q ∨ (b = d ∧ as ≠ [])) → K 1 h1 z) : w_AL_add dA q (some x) c s K h z := by
  obtain ⟨mo, c1, c2⟩ := j
  unfold w_AL_add
  have jx1 : ∀ e, jo (hm_u h q e) x := fun e => jx.mo (hm_mo.u (Y := fun b => b = q) rfl) (jx.neq c1 ⟨rfl, rfl, rfl, rfl⟩)
  refine cg_I_of c1 rfl (cg_p_of c1 (show 0 < 3 by decide) (cg_R_ref hm_s rfl (cg_I_of hm_s rfl (cg_c_of hm_s (cg_rm_of hc hs ?_)))))
  unfold w_AL_add3
  rcases c2 with ⟨e0, ed⟩ | ⟨e0, n, f, c3, l1, l2, l3⟩
  · -- the first element
    subst e0
    refine cg_d_of ⟨0, Or.inr ⟨ed, rfl⟩, if_yes rfl (cg_c_of hm_s (cg_rm_of (Nat.le_refl _) (Nat.le_refl _) ?_))⟩
    unfold w_AL_grow
    refine cg_I_of hm_s rfl (cg_c_of hm_s (cg_rm_of (Nat.le_refl _) (Nat.le_refl _) ?_))
    unfold w_AL_growI
    refine cg_R_ref hm_s rfl (cg_d_of ⟨0, Or.inr ⟨ed, rfl⟩, if_no (by decide) (cg_R_ref hm_s rfl (if_yes (by rw [ed]) ⟨10, 0, 190, by decide, by decide, rfl, rfl, fun d1 hd1 => ?_⟩))⟩)
    have n0 : d1 ≠ q := fun w => by rw [w, hm_s] at hd1; cases hd1
    have hd0 : h d1 = none := by rw [hm_n n0] at hd1; exact hd1
    refine cg_p_of (fs := [.int (mo + 1), .ref d, .int (nI ([] : List Nat).length)]) (by rw [hm_n (Ne.symm n0)]; exact hm_s) (show 1 < 3 by decide) ?_
    have M : ∀ e1 e2 e3, hm_mo h (hm_u (hm_u (hm_u h q e1) d1 e2) q e3) (fun b => b = q) := fun e1 e2 e3 b e hb n => by
      rw [hm_n n, hm_n (hm_nn hb hd0), hm_n n]; exact hb
    refine ja_add11 (k := 0) hm_s (by rw [hm_n n0]; exact hm_s) (by decide) (by decide) (jx.mo (M _ _ _) (jx.neq c1 ⟨rfl, rfl, rfl, rfl⟩)) (fun h2 k1 k2 M2 => ?_)
    refine hK h2 d1 ⟨_, k1, Or.inr ⟨by simp, 10, _, k2, by simp, by decide, fun i hi => ?_⟩⟩ (Or.inr hd0) (fun b e hb n => ?_)
    · have : i = 0 := by simp at hi; omega
      subst this
      exact va_up_self _ _ _
    · refine M2 b e (M _ _ _ b e hb (fun w => n (Or.inl w))) (fun w => w.elim (fun w => n (Or.inl w)) (fun w => ?_))
      rw [w, hd0] at hb; cases hb
  · have nqd : d ≠ q := hm_ne c3 c1 rfl
    by_cases q1 : as.length < n
    · -- there is place
      refine cg_d_of ⟨nI n, Or.inl ⟨n, f, by rw [hm_n nqd]; exact c3, rfl⟩, if_no (fun w => ?_) ?_⟩
      · have := (nI_eq (by omega) (by omega)).mp w; omega
      · refine ja_add11 hm_s (by rw [hm_n nqd]; exact c3) q1 l2 (jx1 _) (fun h2 k1 k2 M2 => ?_)
        refine hK h2 d ⟨_, by rw [k1, List.length_append]; rfl, Or.inr ⟨by simp, n, _, k2, by rw [List.length_append]; simp; omega, l2, fun i hi => ?_⟩⟩ (Or.inl ⟨rfl, e0⟩) (fun b e hb n9 => ?_)
        · rw [List.length_append] at hi
          by_cases w : i = as.length
          · subst w; rw [va_up_self, getD_app_r]
          · have : i < as.length := by simp at hi; omega
            rw [va_up_ne _ _ w, getD_app_l this]; exact l3 i this
        · refine M2 b e ?_ (fun w => w.elim (fun w => n9 (Or.inl w)) (fun w => n9 (Or.inr ⟨w, e0⟩)))
          rw [hm_n (fun w => n9 (Or.inl w))]; exact hb
    · -- it grows
      have en : as.length = n := by omega
      have n0 : 0 < n := by rw [← en]; exact List.length_pos_iff.mpr e0
      have hh : nI n >>> ((1 : Int32) &&& 31) = nI (n / 2) := sh_half ⟨n, by omega⟩
      refine cg_d_of ⟨nI n, Or.inl ⟨n, f, by rw [hm_n nqd]; exact c3, rfl⟩, if_yes (by rw [en]) (cg_c_of hm_s (cg_rm_of (Nat.le_refl _) (Nat.le_refl _) ?_))⟩
      unfold w_AL_grow
      refine cg_I_of hm_s rfl (cg_c_of hm_s (cg_rm_of (Nat.le_refl _) (Nat.le_refl _) ?_))
      unfold w_AL_growI
      refine cg_R_ref hm_s rfl (cg_d_of ⟨nI n, Or.inl ⟨n, f, by rw [hm_n nqd]; exact c3, rfl⟩, if_yes (show (0 : Int32) < nI n from nI_lt (a := 0) n0 (by omega)) ?_⟩)
      unfold w_AL_growI_20
      refine cg_rm_0 ?_
      obtain ⟨N, hN1, hN2, hN3⟩ : ∃ N : Nat, (nI n + (if nI as.length + 1 - nI n < nI n >>> ((1 : Int32) &&& 31) then nI n >>> ((1 : Int32) &&& 31) else nI as.length + 1 - nI n) : Int32) = nI N ∧ n < N ∧ N ≤ 200 := by
        rw [hh, nI_1, nI_sub (by omega), show as.length + 1 - n = 1 by omega]
        by_cases w : 1 < n / 2
        · rw [if_pos (nI_lt w (by omega)), nI_add]
          exact ⟨_, rfl, by omega, by omega⟩
        · rw [if_neg (nI_nlt (by omega) (by omega)), nI_add]
          exact ⟨_, rfl, by omega, by omega⟩
      unfold w_ArraysSupport_newLength
      rw [hN1]
      refine if_no (show ¬ nI N ≤ 0 from nI_ge (a := 0) (by omega) (by omega)) (if_no (show ¬ 2147483639 < nI N from nI_nlt (a := 2147483639) (by omega) (by decide)) (cg_R_ref hm_s rfl (cg_rm_of (c1 := 1) (s1 := 200) (by omega) (by omega) ?_)))
      unfold w_Arrays_copyOfO
      refine cg_d_of ⟨n, f, by rw [hm_n nqd]; exact c3, cg_rm_of (Nat.le_refl _) (Nat.le_refl _) ?_⟩
      unfold w_Arrays_copyOfC
      refine if_yes rfl ⟨N, 0, 200 - N, rfl, by omega, rfl, by omega, fun d1 hd1 => ?_⟩
      have m0 : d1 ≠ q := fun w => by rw [w, hm_s] at hd1; cases hd1
      have hd0 : h d1 = none := by rw [hm_n m0] at hd1; exact hd1
      have m1 : d ≠ d1 := hm_nn c3 hd0
      unfold w_Arrays_copyOfC_24
      have cd : ∀ e1 e2, (hm_u (hm_u h q e1) d1 e2 : hm_T) d = some (.inl (dA 6, n, .inr (.inr (.inr (.inr f))))) := fun e1 e2 => by rw [hm_n m1, hm_n nqd]; exact c3
      refine cg_d_of ⟨nI n, Or.inl ⟨n, f, cd _ _, rfl⟩, cg_d_of (cg_d_of ?_)⟩
      rw [if_neg (show ¬ nI N < nI n from nI_nlt (by omega) (by omega))]
      have M0 : ∀ e1 e2, hm_mo h (hm_u (hm_u h q e1) d1 e2) (fun b => b = q) := fun e1 e2 b e hb n9 => by
        rw [hm_n (hm_nn hb hd0), hm_n n9]; exact hb
      refine ⟨n, n, N, f, _, rfl, cd _ _, hm_s, Nat.le_refl _, by omega, by omega, by omega, fun i hi y9 hy => ?_, ?_⟩
      · have := l3 i (by omega)
        rw [hy] at this
        cases this
        exact (ja1 i (by omega)).mo (M0 _ _) ((ja1 i (by omega)).neq c1 ⟨rfl, rfl, rfl, rfl⟩)
      · refine cg_p_of (fs := [.int (mo + 1), .ref d, .int (nI as.length)]) (by rw [hm_n (Ne.symm m0), hm_n (Ne.symm m0)]; exact hm_s) (show 1 < 3 by decide) ?_
        have M : ∀ e1 e2 e3 e4, hm_mo h (hm_u (hm_u (hm_u (hm_u h q e1) d1 e2) d1 e3) q e4) (fun b => b = q) := fun e1 e2 e3 e4 b e hb n9 => by
          rw [hm_n n9, hm_n (hm_nn hb hd0), hm_n (hm_nn hb hd0), hm_n n9]; exact hb
        refine ja_add11 hm_s (by rw [hm_n m0]; exact hm_s) (show as.length < N by omega) hN3 (jx.mo (M _ _ _ _) (jx.neq c1 ⟨rfl, rfl, rfl, rfl⟩)) (fun h2 k1 k2 M2 => ?_)
        refine hK h2 d1 ⟨_, by rw [k1, List.length_append]; rfl, Or.inr ⟨by simp, N, _, k2, by rw [List.length_append]; simp; omega, hN3, fun i hi => ?_⟩⟩ (Or.inr hd0) (fun b e hb n9 => ?_)
        · rw [List.length_append] at hi
          by_cases w : i = as.length
          · subst w; rw [va_up_self, getD_app_r]
          · have hi2 : i < as.length := by simp at hi; omega
            rw [va_up_ne _ _ w, getD_app_l hi2]
            unfold va_cpy
            rw [if_pos (by omega), Nat.zero_add, Nat.sub_zero]
            exact l3 i hi2
        · refine M2 b e (M _ _ _ _ b e hb (fun w => n9 (Or.inl w))) (fun w => w.elim (fun w => n9 (Or.inl w)) (fun w => ?_))
          rw [w, hd0] at hb; cases hb
theorem ja_init {c s : Nat} (c1 : h q = some (.inr (4, [.int 0, .null, .int 0]))) {K : hm_T → hz_T → Prop} (hK : ∀ h1, ja dA h1 q (dA 99) [] → hm_mo h h1 (fun b => b = q) → K h1 z) : w_ArrayList_init dA q c s K h z := by
  unfold w_ArrayList_init
  refine cg_c_of c1 (cg_rm_0 ?_)
  unfold w_AbstractList_init4
  refine cg_c_of c1 (cg_rm_0 ?_)
  unfold w_AbstractCollection_init4
  refine cg_p_of c1 (show 0 < 3 by decide) (cg_p_of hm_s (show 1 < 3 by decide) ?_)
  rw [hm_uu]
  exact hK _ ⟨0, hm_s, Or.inl ⟨rfl, rfl⟩⟩ (hm_mo.u rfl)
end PL4
