-- the class: taking out, keeping, giving back
/-- the r nodes from place f on lose their places -/
def cp_so (V : Nat → Int32 × Nat × Nat) (B : Nat → Nat) (f : Nat) : Nat → Nat → Int32 × Nat × Nat
  | 0 => V
  | r + 1 => cp_up (cp_so V B f r) (B (f + r)) (-1, (cp_so V B f r (B (f + r))).2)
/-- the order without the places from f to t -/
def cp_cut (B : Nat → Nat) (f t i : Nat) : Nat := if i < f then B i else B (i + (t - f))
def cp_sh (B : Nat → Nat) (f t k i : Nat) : Nat := if f ≤ i ∧ i < f + (k - t) then B (i + (t - f)) else B i
def cp_kp (V : Nat → Int32 × Nat × Nat) (B : Nat → Nat) : Nat → Nat → Int32 × Nat × Nat
  | 0 => V
  | k + 1 => cp_up (cp_kp V B k) (B k) ((cp_kp V B k (B k)).1, (cp_kp V B k (B k)).2.1, (cp_kp V B k (B k)).2.1)
def cp_gb (V : Nat → Int32 × Nat × Nat) (E : Nat → Nat) : Nat → Nat → Int32 × Nat × Nat
  | 0 => V
  | k + 1 => cp_up (cp_gb V E k) (E k) ((cp_gb V E k (E k)).1, (cp_gb V E k (E k)).2.2, (cp_gb V E k (E k)).2.2)
section CP5
variable {dA : Nat → ClassId} {h : hm_T} {z : hz_T} {a aM aO aE mk n m : Nat} {N B E : Nat → Nat} {J : Nat → Int32 × Option Nat × Int32 × Nat × Nat × Int32} {V : Nat → Int32 × Nat × Nat}
theorem cp_toE {f t : Nat} (hft : f ≤ t) (ht : t ≤ n) {K : hm_T → hz_T → Prop} : ∀ (r fu k : Nat) (h : hm_T), k + r = n → t ≤ k → r < fu → cp_T dA h a aM aO aE mk n m N (cp_sh B f t k) E J V → (∀ h1, cp_T dA h1 a aM aO aE mk (n - (t - f)) m N (cp_cut B f t) E J (cp_sp V (cp_cut B f t) (n - (t - f))) → cp_F h h1 a aM aO aE mk N → K h1 z) → w_Tree_takeOut_25 dA a K fu (nI f) (nI t) (nI k) h z := by
  intro r
  induction r with
  | zero =>
    intro fu k h hk htk hr T hK
    obtain ⟨fu, rfl⟩ : ∃ f, fu = f + 1 := ⟨fu - 1, by omega⟩
    obtain rfl : k = n := by omega
    have hb := T.2.2.2.2.2.2.2.2.2.2
    obtain ⟨g, hO, hg⟩ := T.2.2.1
    unfold w_Tree_takeOut_25
    refine cg_I_of T.1 rfl (if_yes (nI_le (Nat.le_refl _) (by omega)) (cg_I_of T.1 rfl (cg_p_of T.1 (show _ < 6 by decide) ?_)))
    rw [nI_sub hft, nI_sub (show t - f ≤ k by omega)]
    have T1 := cp_Tn (n2 := k - (t - f)) (B2 := cp_cut B f t) T hO (by omega) (fun i hi => by
      have e : cp_sh B f t k i = cp_cut B f t i := by
        unfold cp_sh cp_cut
        by_cases q : i < f
        · rw [if_neg (by omega), if_pos q]
        · rw [if_pos (by omega), if_neg q]
      rw [← e]
      exact ⟨hg i (by omega), T.2.2.2.2.2.1 i (by omega)⟩)
    exact cg_c_of T1.1 (cp_setPlaces T1 (fun h1 T2 F2 => hK h1 T2 ((cp_F.u (Or.inl rfl)).trans F2)))
  | succ r ih =>
    intro fu k h hk htk hr T hK
    obtain ⟨fu, rfl⟩ : ∃ f, fu = f + 1 := ⟨fu - 1, by omega⟩
    have hb := T.2.2.2.2.2.2.2.2.2.2
    obtain ⟨g, hO, hg⟩ := T.2.2.1
    have hn := cp_nB T (k := k) (by omega)
    have hv := T.2.2.2.2.2.1 k (by omega)
    have e1 : nI k - nI t + nI f = nI (k - t + f) := by rw [nI_sub htk, nI_add]
    unfold w_Tree_takeOut_25
    refine cg_I_of T.1 rfl (if_no (nI_ge (by omega) (by omega)) (cg_R_ref T.1 rfl (cg_R_ref T.1 rfl (cg_d_of (cg_ar_of hO (by omega) (by omega) (hg k (by omega)) (cg_d_of (cg_d_of (cg_c_of hn ?_))))))))
    rw [e1]
    refine cg_sr_of hO (by omega) (by omega) ?_
    rw [nI_1]
    refine ih fu (k + 1) _ (by omega) (by omega) (by omega) (cp_To T hO hv (fun i hi hne => ?_) (fun hj => ?_)) (fun h1 T1 F1 => hK h1 T1 ((cp_F.u (Or.inr (Or.inr (Or.inl rfl)))).trans F1))
    · unfold cp_sh
      by_cases q : f ≤ i ∧ i < f + (k - t)
      · rw [if_pos q, if_pos (by omega)]
      · rw [if_neg q, if_neg (by omega)]
    · unfold cp_sh
      rw [if_pos (by omega), if_neg (by omega)]
      congr 1
      omega
theorem cp_toL {f t : Nat} (hft : f ≤ t) (ht : t ≤ n) {K : hm_T → hz_T → Prop} : ∀ (r fu k : Nat) (h : hm_T), k + r = t → f ≤ k → r < fu → cp_T dA h a aM aO aE mk n m N B E J (cp_so V B f (k - f)) → (∀ h1, cp_T dA h1 a aM aO aE mk (n - (t - f)) m N (cp_cut B f t) E J (cp_sp (cp_so V B f (t - f)) (cp_cut B f t) (n - (t - f))) → cp_F h h1 a aM aO aE mk N → K h1 z) → w_Tree_takeOut_2 dA a K fu (nI f) (nI t) (nI k) h z := by
  intro r
  induction r with
  | zero =>
    intro fu k h hk hfk hr T hK
    obtain ⟨fu, rfl⟩ : ∃ f, fu = f + 1 := ⟨fu - 1, by omega⟩
    obtain rfl : k = t := by omega
    have hb := T.2.2.2.2.2.2.2.2.2.2
    unfold w_Tree_takeOut_2
    refine if_yes (nI_le (Nat.le_refl _) (by omega)) (cp_toE hft ht (n - k) mF k h (by omega) (Nat.le_refl _) (by unfold mF; omega) ?_ hK)
    have e : cp_sh B f k k = B := by
      funext i
      unfold cp_sh
      rw [if_neg (by omega)]
    rw [e]
    exact T
  | succ r ih =>
    intro fu k h hk hfk hr T hK
    obtain ⟨fu, rfl⟩ : ∃ f, fu = f + 1 := ⟨fu - 1, by omega⟩
    have hb := T.2.2.2.2.2.2.2.2.2.2
    obtain ⟨g, hO, hg⟩ := T.2.2.1
    have hx := T.2.2.2.2.2.1 k (by omega)
    unfold w_Tree_takeOut_2
    refine if_no (nI_ge (by omega) (by omega)) (cg_R_ref T.1 rfl (cg_d_of (cg_ar_of hO (by omega) (by omega) (hg k (by omega)) (cg_d_of (cg_p_of (cp_nB T (by omega)) (show 6 < 9 by decide) ?_)))))
    rw [nI_1]
    refine ih fu (k + 1) _ (by omega) (by omega) (by omega) ?_ (fun h1 T1 F1 => hK h1 T1 ((cp_F.u (Or.inr (Or.inr (Or.inr (Or.inr hx))))).trans F1))
    rw [show k + 1 - f = (k - f) + 1 by omega, show cp_so V B f (k - f + 1) = cp_up (cp_so V B f (k - f)) (B (f + (k - f))) (-1, (cp_so V B f (k - f) (B (f + (k - f)))).2) from rfl, show f + (k - f) = k by omega]
    exact cp_Tw T hx rfl
theorem cp_takeOut (T : cp_T dA h a aM aO aE mk n m N B E J V) {f t : Nat} (hft : f ≤ t) (ht : t ≤ n) {K : hm_T → hz_T → Prop} (hK : ∀ h1, cp_T dA h1 a aM aO aE mk (n - (t - f)) m N (cp_cut B f t) E J (cp_sp (cp_so V B f (t - f)) (cp_cut B f t) (n - (t - f))) → cp_F h h1 a aM aO aE mk N → K h1 z) : w_Tree_takeOut dA a (nI f) (nI t) K h z := by
  have hb := T.2.2.2.2.2.2.2.2.2.2
  unfold w_Tree_takeOut
  refine cp_toL hft ht (t - f) mF f h (by omega) (Nat.le_refl _) (by unfold mF; omega) ?_ hK
  rw [Nat.sub_self]
  exact T
theorem cp_clear (T : cp_T dA h a aM aO aE mk n m N B E J V) {K : hm_T → hz_T → Prop} (hK : ∀ h1, cp_T dA h1 a aM aO aE mk 0 m N B E J (cp_so V B 0 n) → cp_F h h1 a aM aO aE mk N → K h1 z) : w_Tree_clear dA a K h z := by
  unfold w_Tree_clear
  refine cg_I_of T.1 rfl (cg_c_of T.1 (cp_takeOut (f := 0) (t := n) T (Nat.zero_le _) (Nat.le_refl _) (fun h1 T1 F1 => ?_)))
  rw [Nat.sub_zero, Nat.sub_self] at T1
  refine hK h1 ?_ F1
  obtain ⟨t1, tM, ⟨f2, o1, o2⟩, r4, r5, r6, r7⟩ := T1
  exact ⟨t1, tM, ⟨f2, o1, fun i hi => absurd hi (Nat.not_lt_zero _)⟩, r4, r5, fun k hk => absurd hk (Nat.not_lt_zero _), r7⟩
theorem cp_keepL {K : hm_T → hz_T → Prop} : ∀ (r fu k : Nat) (h : hm_T) (E : Nat → Nat), k + r = n → r < fu → cp_T dA h a aM aO aE mk n m N B E J (cp_kp V B k) → (∃ f : Nat → Option Nat, h aE = some (.inl (dA 5, 40, .inr (.inr (.inr (.inr f))))) ∧ ∀ i, i < k → f i = some (B i)) → (∀ h1, cp_T dA h1 a aM aO aE mk n n N B B J (cp_kp V B n) → cp_F h h1 a aM aO aE mk N → K h1 z) → w_Tree_keep_2 dA a K fu (nI k) h z := by
  intro r
  induction r with
  | zero =>
    intro fu k h E hk hr T hE hK
    obtain ⟨fu, rfl⟩ : ∃ f, fu = f + 1 := ⟨fu - 1, by omega⟩
    obtain rfl : k = n := by omega
    have hb := T.2.2.2.2.2.2.2.2.2.2
    obtain ⟨g, hE1, hE2⟩ := hE
    unfold w_Tree_keep_2
    refine cg_I_of T.1 rfl (if_yes (nI_le (Nat.le_refl _) (by omega)) (cg_I_of T.1 rfl (cg_p_of T.1 (show _ < 6 by decide) ?_)))
    exact hK _ (cp_Tm T hE1 (by omega) (fun i hi => ⟨hE2 i hi, T.2.2.2.2.2.1 i hi⟩)) (cp_F.u (Or.inl rfl))
  | succ r ih =>
    intro fu k h E hk hr T hE hK
    obtain ⟨fu, rfl⟩ : ∃ f, fu = f + 1 := ⟨fu - 1, by omega⟩
    have hb := T.2.2.2.2.2.2.2.2.2.2
    obtain ⟨g, hE1, hE2⟩ := hE
    obtain ⟨f, hO, hf⟩ := T.2.2.1
    have hx := T.2.2.2.2.2.1 k (by omega)
    unfold w_Tree_keep_2
    refine cg_I_of T.1 rfl (if_no (nI_ge (by omega) (by omega)) (cg_R_ref T.1 rfl (cg_R_ref T.1 rfl (cg_d_of (cg_ar_of hO (by omega) (by omega) (hf k (by omega)) (cg_d_of (cg_d_of (cg_c_of (cp_nB T (by omega)) (cg_sr_of hE1 (by omega) (by omega) ?_)))))))))
    have T1 := cp_Te (E2 := fun i => if i = k then B k else E i) T hE1 (j := k) hx (fun i _ hne => if_neg hne) (fun _ => if_pos rfl)
    have hn := cp_nB T1 (k := k) (by omega)
    have T2 := cp_Tw (v := ((cp_kp V B k (B k)).1, (cp_kp V B k (B k)).2.1, (cp_kp V B k (B k)).2.1)) T1 hx rfl
    refine cg_R_ref T1.1 rfl (cg_d_of (cg_ar_of (o := some (B k)) hm_s (by omega) (by omega) (va_up_self _ _ _) (cg_R_ref T1.1 rfl (cg_d_of (cg_ar_of (o := some (B k)) hm_s (by omega) (by omega) (va_up_self _ _ _) (cg_d_of (cg_R_ref hn rfl (cg_d_of (cg_p_of hn (show _ < 9 by decide) ?_)))))))))
    rw [nI_1]
    refine ih fu (k + 1) _ _ (by omega) (by omega) T2 ⟨va_up g k (some (B k)), ?_, fun i hi => ?_⟩ (fun h1 T3 F3 => hK h1 T3 (((cp_F.u (Or.inr (Or.inr (Or.inr (Or.inl rfl))))).trans (cp_F.u (Or.inr (Or.inr (Or.inr (Or.inr hx)))))).trans F3))
    · rw [hm_n (hm_ne hm_s hn rfl)]; exact hm_s
    · by_cases q : i = k
      · subst q; exact va_up_self _ _ _
      · rw [va_up_ne _ _ q]; exact hE2 i (by omega)
theorem cp_keep (T : cp_T dA h a aM aO aE mk n m N B E J V) {K : hm_T → hz_T → Prop} (hK : ∀ h1, cp_T dA h1 a aM aO aE mk n n N B B J (cp_kp V B n) → cp_F h h1 a aM aO aE mk N → K h1 z) : w_Tree_keep dA a K h z := by
  have hb := T.2.2.2.2.2.2.2.2.2.2
  unfold w_Tree_keep
  obtain ⟨f, hE, _⟩ := T.2.2.2.1
  exact cp_keepL n mF 0 h E (by omega) (by unfold mF; omega) T ⟨f, hE, fun i hi => absurd hi (Nat.not_lt_zero _)⟩ hK
theorem cp_giveL {K : hm_T → hz_T → Prop} : ∀ (r fu k : Nat) (h : hm_T), k + r = m → r < fu → cp_T dA h a aM aO aE mk 0 m N B E J (cp_gb V E k) → (∃ f : Nat → Option Nat, h aO = some (.inl (dA 5, 40, .inr (.inr (.inr (.inr f))))) ∧ ∀ i, i < k → f i = some (E i)) → (∀ h1, cp_T dA h1 a aM aO aE mk m m N E E J (cp_sp (cp_gb V E m) E m) → cp_F h h1 a aM aO aE mk N → K h1 z) → w_Tree_giveBack_6 dA a K fu (nI k) h z := by
  intro r
  induction r with
  | zero =>
    intro fu k h hk hr T hE hK
    obtain ⟨fu, rfl⟩ : ∃ f, fu = f + 1 := ⟨fu - 1, by omega⟩
    obtain rfl : k = m := by omega
    have hb := T.2.2.2.2.2.2.2.2.2.2
    obtain ⟨g, hO1, hO2⟩ := hE
    unfold w_Tree_giveBack_6
    refine cg_I_of T.1 rfl (if_yes (nI_le (Nat.le_refl _) (by omega)) (cg_I_of T.1 rfl (cg_p_of T.1 (show _ < 6 by decide) ?_)))
    have T1 := cp_Tn (B2 := E) (n2 := k) T hO1 (by omega) (fun i hi => ⟨hO2 i hi, T.2.2.2.2.2.2.1 i hi⟩)
    exact cg_c_of T1.1 (cp_setPlaces T1 (fun h1 T2 F2 => hK h1 T2 ((cp_F.u (Or.inl rfl)).trans F2)))
  | succ r ih =>
    intro fu k h hk hr T hE hK
    obtain ⟨fu, rfl⟩ : ∃ f, fu = f + 1 := ⟨fu - 1, by omega⟩
    have hb := T.2.2.2.2.2.2.2.2.2.2
    obtain ⟨g, hO1, hO2⟩ := hE
    obtain ⟨f, hE1, hf⟩ := T.2.2.2.1
    have hx := T.2.2.2.2.2.2.1 k (by omega)
    have hnE : h (E k) = some (cp_e J (cp_gb V E k) (E k)) := by
      obtain ⟨i, hi, e⟩ := hx
      rw [← e]
      exact T.2.2.2.2.1 i hi
    unfold w_Tree_giveBack_6
    refine cg_I_of T.1 rfl (if_no (nI_ge (by omega) (by omega)) (cg_R_ref T.1 rfl (cg_R_ref T.1 rfl (cg_d_of (cg_ar_of hE1 (by omega) (by omega) (hf k (by omega)) (cg_d_of (cg_d_of (cg_c_of hnE (cg_sr_of hO1 (by omega) (by omega) ?_)))))))))
    have T1 := cp_To (B2 := B) T hO1 (j := k) hx (fun i hi _ => absurd hi (Nat.not_lt_zero _)) (fun hi => absurd hi (Nat.not_lt_zero _))
    have hn : (hm_u h aO (.inl (dA 5, 40, .inr (.inr (.inr (.inr (va_up g k (some (E k)))))))) : hm_T) (E k) = some (cp_e J (cp_gb V E k) (E k)) := by rw [hm_n (hm_ne hnE hO1 rfl)]; exact hnE
    have T2 := cp_Tw (v := ((cp_gb V E k (E k)).1, (cp_gb V E k (E k)).2.2, (cp_gb V E k (E k)).2.2)) T1 hx rfl
    refine cg_R_ref T1.1 rfl (cg_d_of (cg_ar_of (o := some (E k)) hm_s (by omega) (by omega) (va_up_self _ _ _) (cg_R_ref T1.1 rfl (cg_d_of (cg_ar_of (o := some (E k)) hm_s (by omega) (by omega) (va_up_self _ _ _) (cg_d_of (cg_R_ref hn rfl (cg_d_of (cg_p_of hn (show _ < 9 by decide) ?_)))))))))
    rw [nI_1]
    refine ih fu (k + 1) _ (by omega) (by omega) T2 ⟨va_up g k (some (E k)), ?_, fun i hi => ?_⟩ (fun h1 T3 F3 => hK h1 T3 (((cp_F.u (Or.inr (Or.inr (Or.inl rfl)))).trans (cp_F.u (Or.inr (Or.inr (Or.inr (Or.inr hx)))))).trans F3))
    · rw [hm_n (hm_ne hm_s hn rfl)]; exact hm_s
    · by_cases q : i = k
      · subst q; exact va_up_self _ _ _
      · rw [va_up_ne _ _ q]; exact hO2 i (by omega)
theorem cp_giveBack (T : cp_T dA h a aM aO aE mk n m N B E J V) {K : hm_T → hz_T → Prop} (hK : ∀ h1, cp_T dA h1 a aM aO aE mk m m N E E J (cp_sp (cp_gb (cp_so V B 0 n) E m) E m) → cp_F h h1 a aM aO aE mk N → K h1 z) : w_Tree_giveBack dA a K h z := by
  have hb := T.2.2.2.2.2.2.2.2.2.2
  unfold w_Tree_giveBack
  refine cg_c_of T.1 (cp_clear T (fun h1 T1 F1 => ?_))
  obtain ⟨f, hO, _⟩ := T1.2.2.1
  exact cp_giveL m mF 0 h1 (by omega) (by unfold mF; omega) T1 ⟨f, hO, fun i hi => absurd hi (Nat.not_lt_zero _)⟩ (fun h2 T2 F2 => hK h2 T2 (F1.trans F2))
end CP5
