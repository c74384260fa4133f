-- the class: what the tree's changes do
def cp_up (V : Nat → Int32 × Nat × Nat) (x : Nat) (v : Int32 × Nat × Nat) : Nat → Int32 × Nat × Nat := fun y => if y = x then v else V y
/-- the tree's cells -/
def cp_X (a aM aO aE mk : Nat) (N : Nat → Nat) (b : Nat) : Prop := b = a ∨ b = aM ∨ b = aO ∨ b = aE ∨ ∃ i, i < mk ∧ N i = b
/-- nothing but the tree's cells has changed -/
def cp_F (h h1 : hm_T) (a aM aO aE mk : Nat) (N : Nat → Nat) : Prop := ∀ b, ¬ cp_X a aM aO aE mk N b → h1 b = h b
section CP4
variable {dA : Nat → ClassId} {h h1 h2 : hm_T} {z : hz_T} {a aM aO aE mk n m : Nat} {N B E : Nat → Nat} {J : Nat → Int32 × Option Nat × Int32 × Nat × Nat × Int32} {V : Nat → Int32 × Nat × Nat}
theorem cp_F.refl : cp_F h h a aM aO aE mk N := fun _ _ => rfl
theorem cp_F.trans (f1 : cp_F h h1 a aM aO aE mk N) (f2 : cp_F h1 h2 a aM aO aE mk N) : cp_F h h2 a aM aO aE mk N := fun b hb => (f2 b hb).trans (f1 b hb)
theorem cp_F.u {b : Nat} {e : va_E} (hb : cp_X a aM aO aE mk N b) : cp_F h (hm_u h b e) a aM aO aE mk N := fun c hc => hm_n (fun q => hc (by rw [q]; exact hb))
/-- a node's place and texts written -/
theorem cp_Tw (T : cp_T dA h a aM aO aE mk n m N B E J V) {x : Nat} (hx : ∃ i, i < mk ∧ N i = x) {v : Int32 × Nat × Nat} {e : va_E} (he : e = .inr (8, [.int (J x).1, va_rf (J x).2.1, .int (J x).2.2.1, .ref (J x).2.2.2.1, .ref (J x).2.2.2.2.1, .int (J x).2.2.2.2.2, .int v.1, .ref v.2.1, .ref v.2.2])) : cp_T dA (hm_u h x e) a aM aO aE mk n m N B E J (cp_up V x v) := by
  subst he
  obtain ⟨i0, hi0, ex⟩ := hx
  obtain ⟨t1, ⟨f1, m1, m2⟩, ⟨f2, o1, o2⟩, ⟨f3, e1, e2⟩, tn, r⟩ := T
  have hx0 : h x = some (cp_e J V x) := by rw [← ex]; exact tn i0 hi0
  refine ⟨?_, ⟨f1, ?_, m2⟩, ⟨f2, ?_, o2⟩, ⟨f3, ?_, e2⟩, fun i hi => ?_, r⟩
  · rw [hm_n (hm_ne t1 hx0 rfl)]; exact t1
  · rw [hm_n (hm_ne m1 hx0 rfl)]; exact m1
  · rw [hm_n (hm_ne o1 hx0 rfl)]; exact o1
  · rw [hm_n (hm_ne e1 hx0 rfl)]; exact e1
  · by_cases q : N i = x
    · rw [q, hm_s]
      simp only [cp_e, cp_up, if_true]
    · rw [hm_n q, tn i hi]
      simp only [cp_e, cp_up, q, if_false]
/-- the order written -/
theorem cp_To (T : cp_T dA h a aM aO aE mk n m N B E J V) {f : Nat → Option Nat} (hO : h aO = some (.inl (dA 5, 40, .inr (.inr (.inr (.inr f)))))) {B2 : Nat → Nat} {j v : Nat} (hv : ∃ i, i < mk ∧ N i = v) (hB : ∀ i, i < n → i ≠ j → B2 i = B i) (hj : j < n → B2 j = v) : cp_T dA (hm_u h aO (.inl (dA 5, 40, .inr (.inr (.inr (.inr (va_up f j (some v)))))))) a aM aO aE mk n m N B2 E J V := by
  obtain ⟨t1, ⟨f1, m1, m2⟩, ⟨f2, o1, o2⟩, ⟨f3, e1, e2⟩, tn, rB, rE, q1, q2, q3, r⟩ := T
  rw [o1] at hO
  cases hO
  refine ⟨?_, ⟨f1, ?_, m2⟩, ⟨_, hm_s, fun i hi => ?_⟩, ⟨f3, ?_, e2⟩, fun i hi => ?_, fun k hk => ?_, rE, q1, q2, q3, r⟩
  · rw [hm_n (hm_ne t1 o1 rfl)]; exact t1
  · rw [hm_n q1]; exact m1
  · by_cases q : i = j
    · subst q
      rw [va_up_self, hj hi]
    · rw [va_up_ne _ _ q, o2 i hi, hB i hi q]
  · rw [hm_n (Ne.symm q3)]; exact e1
  · rw [hm_n (hm_ne (tn i hi) o1 rfl)]; exact tn i hi
  · by_cases q : k = j
    · subst q
      rw [hj hk]; exact hv
    · rw [hB k hk q]; exact rB k hk
/-- the kept order written -/
theorem cp_Te (T : cp_T dA h a aM aO aE mk n m N B E J V) {f : Nat → Option Nat} (hO : h aE = some (.inl (dA 5, 40, .inr (.inr (.inr (.inr f)))))) {E2 : Nat → Nat} {j v : Nat} (hv : ∃ i, i < mk ∧ N i = v) (hB : ∀ i, i < m → i ≠ j → E2 i = E i) (hj : j < m → E2 j = v) : cp_T dA (hm_u h aE (.inl (dA 5, 40, .inr (.inr (.inr (.inr (va_up f j (some v)))))))) a aM aO aE mk n m N B E2 J V := by
  obtain ⟨t1, ⟨f1, m1, m2⟩, ⟨f2, o1, o2⟩, ⟨f3, e1, e2⟩, tn, rB, rE, q1, q2, q3, r⟩ := T
  rw [e1] at hO
  cases hO
  refine ⟨?_, ⟨f1, ?_, m2⟩, ⟨f2, ?_, o2⟩, ⟨_, hm_s, fun i hi => ?_⟩, fun i hi => ?_, rB, fun k hk => ?_, q1, q2, q3, r⟩
  · rw [hm_n (hm_ne t1 e1 rfl)]; exact t1
  · rw [hm_n q2]; exact m1
  · rw [hm_n q3]; exact o1
  · by_cases q : i = j
    · subst q
      rw [va_up_self, hj hi]
    · rw [va_up_ne _ _ q, e2 i hi, hB i hi q]
  · rw [hm_n (hm_ne (tn i hi) e1 rfl)]; exact tn i hi
  · by_cases q : k = j
    · subst q
      rw [hj hk]; exact hv
    · rw [hB k hk q]; exact rE k hk
/-- the size written: fewer, or more of the order's rows count -/
theorem cp_Tn (T : cp_T dA h a aM aO aE mk n m N B E J V) {f : Nat → Option Nat} (hO : h aO = some (.inl (dA 5, 40, .inr (.inr (.inr (.inr f)))))) {n2 : Nat} {B2 : Nat → Nat} (h2 : n2 ≤ 40) (hf : ∀ i, i < n2 → f i = some (B2 i) ∧ ∃ j, j < mk ∧ N j = B2 i) : cp_T dA (hm_u h a (.inr (1, [.ref aM, .int (nI mk), .ref aO, .int (nI n2), .ref aE, .int (nI m)]))) a aM aO aE mk n2 m N B2 E J V := by
  obtain ⟨t1, ⟨f1, m1, m2⟩, ⟨f2, o1, o2⟩, ⟨f3, e1, e2⟩, tn, rB, rE, q1, q2, q3, r1, r2, r3⟩ := T
  rw [o1] at hO
  cases hO
  refine ⟨hm_s, ⟨f1, ?_, m2⟩, ⟨_, ?_, fun i hi => (hf i hi).1⟩, ⟨f3, ?_, e2⟩, fun i hi => ?_, fun k hk => (hf k hk).2, rE, q1, q2, q3, r1, h2, r3⟩
  · rw [hm_n (hm_ne m1 t1 rfl)]; exact m1
  · rw [hm_n (hm_ne o1 t1 rfl)]; exact o1
  · rw [hm_n (hm_ne e1 t1 rfl)]; exact e1
  · rw [hm_n (hm_ne (tn i hi) t1 rfl)]; exact tn i hi
theorem cp_Tm (T : cp_T dA h a aM aO aE mk n m N B E J V) {f : Nat → Option Nat} (hO : h aE = some (.inl (dA 5, 40, .inr (.inr (.inr (.inr f)))))) {m2 : Nat} {E2 : Nat → Nat} (h2 : m2 ≤ 40) (hf : ∀ i, i < m2 → f i = some (E2 i) ∧ ∃ j, j < mk ∧ N j = E2 i) : cp_T dA (hm_u h a (.inr (1, [.ref aM, .int (nI mk), .ref aO, .int (nI n), .ref aE, .int (nI m2)]))) a aM aO aE mk n m2 N B E2 J V := by
  obtain ⟨t1, ⟨f1, m1, m2'⟩, ⟨f2, o1, o2⟩, ⟨f3, e1, e2⟩, tn, rB, rE, q1, q2, q3, r1, r2, r3⟩ := T
  rw [e1] at hO
  cases hO
  refine ⟨hm_s, ⟨f1, ?_, m2'⟩, ⟨f2, ?_, o2⟩, ⟨_, ?_, fun i hi => (hf i hi).1⟩, fun i hi => ?_, rB, fun k hk => (hf k hk).2, q1, q2, q3, r1, r2, h2⟩
  · rw [hm_n (hm_ne m1 t1 rfl)]; exact m1
  · rw [hm_n (hm_ne o1 t1 rfl)]; exact o1
  · rw [hm_n (hm_ne e1 t1 rfl)]; exact e1
  · rw [hm_n (hm_ne (tn i hi) t1 rfl)]; exact tn i hi
/-- places set for the first k of the order -/
def cp_sp (V : Nat → Int32 × Nat × Nat) (B : Nat → Nat) : Nat → Nat → Int32 × Nat × Nat
  | 0 => V
  | k + 1 => cp_up (cp_sp V B k) (B k) (nI k, (cp_sp V B k (B k)).2)
theorem cp_setPlacesL {K : hm_T → hz_T → Prop} : ∀ (r fu k : Nat) (h : hm_T) (V : Nat → Int32 × Nat × Nat), k + r = n → r < fu → cp_T dA h a aM aO aE mk n m N B E J (cp_sp V B k) → (∀ h1, cp_T dA h1 a aM aO aE mk n m N B E J (cp_sp V B n) → cp_F h h1 a aM aO aE mk N → K h1 z) → w_Tree_setPlaces_2 dA a K fu (nI k) h z := by
  intro r
  induction r with
  | zero =>
    intro fu k h V hk hr T hK
    obtain ⟨fu, rfl⟩ : ∃ f, fu = f + 1 := ⟨fu - 1, by omega⟩
    obtain rfl : k = n := by omega
    have hb := T.2.2.2.2.2.2.2.2.2.2
    unfold w_Tree_setPlaces_2
    exact cg_I_of T.1 rfl (if_yes (nI_le (Nat.le_refl _) (by omega)) (hK h T cp_F.refl))
  | succ r ih =>
    intro fu k h V hk hr T hK
    obtain ⟨fu, rfl⟩ : ∃ f, fu = f + 1 := ⟨fu - 1, by omega⟩
    have hb := T.2.2.2.2.2.2.2.2.2.2
    obtain ⟨f, hO, hf⟩ := T.2.2.1
    have hx := T.2.2.2.2.2.1 k (by omega)
    unfold w_Tree_setPlaces_2
    refine cg_I_of T.1 rfl (if_no (nI_ge (by omega) (by omega)) (cg_R_ref T.1 rfl (cg_d_of (cg_ar_of hO (by omega) (by omega) (hf k (by omega)) (cg_d_of (cg_p_of (cp_nB T (by omega)) (show 6 < 9 by decide) ?_))))))
    rw [nI_1]
    exact ih fu (k + 1) _ V (by omega) (by omega) (cp_Tw T hx rfl) (fun h1 T1 F1 => hK h1 T1 ((cp_F.u (Or.inr (Or.inr (Or.inr (Or.inr hx))))).trans F1))
theorem cp_setPlaces (T : cp_T dA h a aM aO aE mk n m N B E J V) {K : hm_T → hz_T → Prop} (hK : ∀ h1, cp_T dA h1 a aM aO aE mk n m N B E J (cp_sp V B n) → cp_F h h1 a aM aO aE mk N → K h1 z) : w_Tree_setPlaces dA a K h z := by
  have hb := T.2.2.2.2.2.2.2.2.2.2
  unfold w_Tree_setPlaces
  exact cp_setPlacesL n mF 0 h V (by omega) (by unfold mF; omega) T hK
theorem cp_sp_2 : ∀ (k x : Nat), (cp_sp V B k x).2 = (V x).2 := by
  intro k
  induction k with
  | zero => intro x; rfl
  | succ k ih =>
    intro x
    unfold cp_sp cp_up
    by_cases q : x = B k
    · rw [if_pos q, ← q]; exact ih x
    · rw [if_neg q]; exact ih x
theorem cp_sp_o : ∀ (k x : Nat), (∀ j, j < k → B j ≠ x) → cp_sp V B k x = V x := by
  intro k
  induction k with
  | zero => intro x _; rfl
  | succ k ih =>
    intro x hx
    unfold cp_sp cp_up
    rw [if_neg (Ne.symm (hx k (by omega)))]
    exact ih x (fun j hj => hx j (by omega))
theorem cp_sp_1 (hi : ∀ i j, i < n → j < n → B i = B j → i = j) : ∀ k, k ≤ n → ∀ j, j < k → (cp_sp V B k (B j)).1 = nI j := by
  intro k
  induction k with
  | zero => intro _ j hj; omega
  | succ k ih =>
    intro hk j hj
    unfold cp_sp cp_up
    by_cases q : B j = B k
    · have := hi j k (by omega) (by omega) q
      subst this
      rw [if_pos rfl]
    · rw [if_neg q]
      refine ih (by omega) j ?_
      have : j ≠ k := fun e => q (by rw [e])
      omega
end CP4
