-- steps of the predicates, as rows to go by
theorem cg_d_of {a : Nat} {K : Nat → Prop} (hK : K a) : cg_d (some a) K := ⟨a, rfl, hK⟩
theorem cg_I_of {h : hm_T} {ci k a : Nat} {fs : List Value} {x : Int32} {K : Int32 → Prop} (c : h a = some (.inr (ci, fs))) (e : fs[k]? = some (.int x)) (hK : K x) : cg_I h ci k a K := ⟨fs, x, c, e, hK⟩
theorem cg_L_of {h : hm_T} {ci k a : Nat} {fs : List Value} {x : Int64} {K : Int64 → Prop} (c : h a = some (.inr (ci, fs))) (e : fs[k]? = some (.long x)) (hK : K x) : cg_L h ci k a K := ⟨fs, x, c, e, hK⟩
theorem cg_R_ref {h : hm_T} {ci k a x : Nat} {fs : List Value} {K : Option Nat → Prop} (c : h a = some (.inr (ci, fs))) (e : fs[k]? = some (.ref x)) (hK : K (some x)) : cg_R h ci k a K := ⟨fs, some x, c, e, hK⟩
theorem cg_R_nul {h : hm_T} {ci k a : Nat} {fs : List Value} {K : Option Nat → Prop} (c : h a = some (.inr (ci, fs))) (e : fs[k]? = some .null) (hK : K none) : cg_R h ci k a K := ⟨fs, none, c, e, hK⟩
theorem cg_R_of {h : hm_T} {ci k a : Nat} {fs : List Value} {o : Option Nat} {K : Option Nat → Prop} (c : h a = some (.inr (ci, fs))) (e : fs[k]? = some (va_rf o)) (hK : K o) : cg_R h ci k a K := ⟨fs, o, c, e, hK⟩
theorem cg_c_of {h : hm_T} {ci a : Nat} {fs : List Value} {K : Prop} (c : h a = some (.inr (ci, fs))) (hK : K) : cg_c h ci a K := ⟨fs, c, hK⟩
theorem cg_p_of {h : hm_T} {ci k a : Nat} {fs : List Value} {v : Value} {K : hm_T → Prop} (c : h a = some (.inr (ci, fs))) (e : k < fs.length) (hK : K (hm_u h a (.inr (ci, fs.set k v)))) : cg_p h ci k a v K := ⟨fs, c, e, hK⟩
theorem vp_inI {i n : Nat} (hi : i < n) (hn : n < 2 ^ 31) : vp_in (nI i) n := by
  intro q
  rcases q with q | q
  · exact nI_pos (by omega) q
  · rw [nI_clamp (by omega)] at q; omega
theorem cg_ar_of {dA : Nat → ClassId} {h : hm_T} {t a n j : Nat} {f : Nat → Option Nat} {o : Option Nat} {K : Option Nat → Prop} (c : h a = some (.inl (dA t, n, .inr (.inr (.inr (.inr f)))))) (hj : j < n) (hn : n < 2 ^ 31) (e : f j = o) (hK : K o) : cg_ar dA h t a (nI j) K := ⟨n, f, c, vp_inI hj hn, by rw [nI_clamp (by omega), e]; exact hK⟩
theorem cg_ai_of {dA : Nat → ClassId} {h : hm_T} {t a n j : Nat} {f : Nat → Int32} {o : Int32} {K : Int32 → Prop} (c : h a = some (.inl (dA t, n, .inl f))) (hj : j < n) (hn : n < 2 ^ 31) (e : f j = o) (hK : K o) : cg_ai dA h t a (nI j) K := ⟨n, f, c, vp_inI hj hn, by rw [nI_clamp (by omega), e]; exact hK⟩
theorem cg_al_of {dA : Nat → ClassId} {h : hm_T} {t a n : Nat} {f : Nat → Int32} {K : Int32 → Prop} (c : h a = some (.inl (dA t, n, .inl f))) (hK : K (nI n)) : cg_al dA h t a K := ⟨n, f, c, hK⟩
theorem cg_sr_of {dA : Nat → ClassId} {h : hm_T} {t a n j v : Nat} {f : Nat → Option Nat} {K : hm_T → Prop} (c : h a = some (.inl (dA t, n, .inr (.inr (.inr (.inr f)))))) (hj : j < n) (hn : n < 2 ^ 31) (hK : K (hm_u h a (.inl (dA t, n, .inr (.inr (.inr (.inr (va_up f j (some v))))))))) : cg_sr dA h t a (nI j) v K := ⟨n, f, c, vp_inI hj hn, by rw [nI_clamp (by omega)]; exact hK⟩
theorem cg_si_of {dA : Nat → ClassId} {h : hm_T} {t a n j : Nat} {x : Int32} {f : Nat → Int32} {K : hm_T → Prop} (c : h a = some (.inl (dA t, n, .inl f))) (hj : j < n) (hn : n < 2 ^ 31) (hK : K (hm_u h a (.inl (dA t, n, .inl (upd f j x))))) : cg_si dA h t a (nI j) x K := ⟨n, f, c, vp_inI hj hn, by rw [nI_clamp (by omega)]; exact hK⟩
theorem if_yes {c : Prop} [Decidable c] {a b : Prop} (hc : c) (ha : a) : if c then a else b := by rw [if_pos hc]; exact ha
theorem if_no {c : Prop} [Decidable c] {a b : Prop} (hc : ¬ c) (hb : b) : if c then a else b := by rw [if_neg hc]; exact hb
theorem i32_nat {x : Int32} (h : ¬ x < 0) : x = nI x.toNatClampNeg ∧ x.toNatClampNeg < 2 ^ 31 ∧ (x.toNatClampNeg : Int) = x.toInt := by
  have hp : (0 : Int) ≤ x.toInt := by simpa using Int32.le_iff_toInt_le.mp (Int32.not_lt.mp h)
  have hl := Int32.toInt_lt x
  have e : x.toNatClampNeg = x.toInt.toNat := rfl
  have hb : x.toNatClampNeg < 2 ^ 31 := by omega
  refine ⟨?_, hb, by omega⟩
  apply Int32.toInt_inj.mp
  rw [nI_toInt hb]
  omega
/-- a node's cell: J has kind, parent, depth, label, attributes, number; V has place, text, kept text -/
def cp_e (J : Nat → Int32 × Option Nat × Int32 × Nat × Nat × Int32) (V : Nat → Int32 × Nat × Nat) (x : Nat) : va_E := .inr (8, [.int (J x).1, va_rf (J x).2.1, .int (J x).2.2.1, .ref (J x).2.2.2.1, .ref (J x).2.2.2.2.1, .int (J x).2.2.2.2.2, .int (V x).1, .ref (V x).2.1, .ref (V x).2.2])
/-- the tree's cells: mk nodes made (the i-th at N i), n there (B k), m kept (E k) -/
def cp_T (dA : Nat → ClassId) (h : hm_T) (a aM aO aE mk n m : Nat) (N B E : Nat → Nat) (J : Nat → Int32 × Option Nat × Int32 × Nat × Nat × Int32) (V : Nat → Int32 × Nat × Nat) : Prop :=
  h a = some (.inr (1, [.ref aM, .int (nI mk), .ref aO, .int (nI n), .ref aE, .int (nI m)])) ∧ (∃ f : Nat → Option Nat, h aM = some (.inl (dA 5, 200, .inr (.inr (.inr (.inr f))))) ∧ ∀ i, i < mk → f i = some (N i)) ∧ (∃ f : Nat → Option Nat, h aO = some (.inl (dA 5, 40, .inr (.inr (.inr (.inr f))))) ∧ ∀ i, i < n → f i = some (B i)) ∧ (∃ f : Nat → Option Nat, h aE = some (.inl (dA 5, 40, .inr (.inr (.inr (.inr f))))) ∧ ∀ i, i < m → f i = some (E i)) ∧ (∀ i, i < mk → h (N i) = some (cp_e J V (N i))) ∧ (∀ k, k < n → ∃ i, i < mk ∧ N i = B k) ∧ (∀ k, k < m → ∃ i, i < mk ∧ N i = E k) ∧ aM ≠ aO ∧ aM ≠ aE ∧ aO ≠ aE ∧ mk ≤ 200 ∧ n ≤ 40 ∧ m ≤ 40
/-- numbers and places: the i-th made has number i; the k-th there has place k, who isn't there -1 -/
def cp_P (mk n : Nat) (N B : Nat → Nat) (J : Nat → Int32 × Option Nat × Int32 × Nat × Nat × Int32) (V : Nat → Int32 × Nat × Nat) : Prop :=
  (∀ i, i < mk → (J (N i)).2.2.2.2.2 = nI i) ∧ (∀ k, k < n → (V (B k)).1 = nI k) ∧ ∀ i, i < mk → (∀ k, k < n → B k ≠ N i) → (V (N i)).1 = -1
section CP1
variable {dA : Nat → ClassId} {h : hm_T} {z : hz_T} {a aM aO aE mk n m : Nat} {N B E : Nat → Nat} {J : Nat → Int32 × Option Nat × Int32 × Nat × Nat × Int32} {V : Nat → Int32 × Nat × Nat}
theorem cp_nB (T : cp_T dA h a aM aO aE mk n m N B E J V) {k : Nat} (hk : k < n) : h (B k) = some (cp_e J V (B k)) := by
  obtain ⟨i, hi, e⟩ := T.2.2.2.2.2.1 k hk
  rw [← e]
  exact T.2.2.2.2.1 i hi
theorem cp_find_some (T : cp_T dA h a aM aO aE mk n m N B E J V) (P : cp_P mk n N B J V) {k i : Nat} (hk : k < n) (hi : i < mk) (e : N i = B k) {K : Option Nat → hm_T → hz_T → Prop} (hK : K (some (B k)) h z) : w_Tree_find dA a (nI i) K h z := by
  have hT := T.1
  obtain ⟨f, hM, hf⟩ := T.2.1
  have hb := T.2.2.2.2.2.2.2.2.2.2
  have hN : h (N i) = some (cp_e J V (N i)) := T.2.2.2.2.1 i hi
  unfold w_Tree_find
  refine if_no (nI_pos (by omega)) (cg_I_of hT rfl (if_no (nI_ge (by omega) (by omega)) (cg_R_ref hT rfl (cg_d_of (cg_ar_of hM (by omega) (by omega) (hf i hi) (cg_d_of (cg_I_of hN rfl (if_no ?_ (cg_R_ref hT rfl (cg_d_of (cg_ar_of hM (by omega) (by omega) (hf i hi) ?_)))))))))))
  · rw [e, P.2.1 k hk]
    intro q
    have := congrArg Int32.toInt q
    rw [nI_toInt (by omega)] at this
    have e1 : (-1 : Int32).toInt = -1 := by decide
    omega
  · rw [e]; exact hK
theorem cp_find_none (T : cp_T dA h a aM aO aE mk n m N B E J V) (P : cp_P mk n N B J V) {y : Int32} (hy : ∀ i k, i < mk → k < n → N i = B k → y ≠ nI i) {K : Option Nat → hm_T → hz_T → Prop} (hK : K none h z) : w_Tree_find dA a y K h z := by
  have hT := T.1
  obtain ⟨f, hM, hf⟩ := T.2.1
  have hb := T.2.2.2.2.2.2.2.2.2.2
  unfold w_Tree_find
  by_cases h0 : y < 0
  · exact if_yes h0 hK
  refine if_no h0 (cg_I_of hT rfl ?_)
  by_cases h1 : nI mk ≤ y
  · exact if_yes h1 hK
  refine if_no h1 (cg_R_ref hT rfl (cg_d_of ?_))
  have e0 : y = nI y.toNatClampNeg := by
    apply Int32.toInt_inj.mp
    have : (0 : Int) ≤ y.toInt := by
      have := Int32.not_lt.mp h0
      simpa using Int32.le_iff_toInt_le.mp this
    rw [nI_toInt (by have := Int32.toInt_lt y; show y.toInt.toNat < _; omega)]
    show y.toInt = (y.toInt.toNat : Int)
    omega
  generalize hi : y.toNatClampNeg = i at e0
  have hlt : i < mk := by
    have h2 := Int32.not_le.mp h1
    rw [e0] at h2
    have h3 := Int32.lt_iff_toInt_lt.mp h2
    have hi2 : i < 2 ^ 31 := by
      rw [← hi]
      show y.toInt.toNat < _
      have := Int32.toInt_lt y
      omega
    rw [nI_toInt hi2, nI_toInt (by omega)] at h3
    omega
  subst e0
  have hN : h (N i) = some (cp_e J V (N i)) := T.2.2.2.2.1 i hlt
  refine cg_ar_of hM (by omega) (by omega) (hf i hlt) (cg_d_of (cg_I_of hN rfl (if_yes ?_ hK)))
  exact P.2.2 i hlt (fun k hk q => hy i k hlt hk q.symm rfl)
end CP1
