-- nodes that have been read go into the tree
def cp_N2 (N : Nat → Nat) (mk : Nat) (as : List Nat) (i : Nat) : Nat := if i < mk then N i else as.getD (i - mk) 0
def cp_B2 (B : Nat → Nat) (s : Nat) (as : List Nat) (i : Nat) : Nat := if i < s then B i else if i < s + as.length then as.getD (i - s) 0 else B (i - as.length)
/-- a node that has no number yet -/
def cp_e0 (J : Nat → Int32 × Option Nat × Int32 × Nat × Nat × Int32) (V : Nat → Int32 × Nat × Nat) (x : Nat) : va_E := .inr (8, [.int (J x).1, va_rf (J x).2.1, .int (J x).2.2.1, .ref (J x).2.2.2.1, .ref (J x).2.2.2.2.1, .int (-1), .int (V x).1, .ref (V x).2.1, .ref (V x).2.2])
section PQ1
variable {dA : Nat → ClassId} {h h1 : hm_T} {z : hz_T} {a aM aO aE mk n m : Nat} {N B E : Nat → Nat} {J : Nat → Int32 × Option Nat × Int32 × Nat × Nat × Int32} {V : Nat → Int32 × Nat × Nat} {rd d : Nat} {as : List Nat} {sp : Nat}
theorem cp_N2_X {k : Nat} (hk : k ≤ as.length) {b : Nat} (w : cp_X a aM aO aE (mk + k) (cp_N2 N mk as) b) : cp_X a aM aO aE (mk + as.length) (cp_N2 N mk as) b := by
  rcases w with w | w | w | w | ⟨i, hi, w⟩
  · exact Or.inl w
  · exact Or.inr (Or.inl w)
  · exact Or.inr (Or.inr (Or.inl w))
  · exact Or.inr (Or.inr (Or.inr (Or.inl w)))
  · exact Or.inr (Or.inr (Or.inr (Or.inr ⟨i, by omega, w⟩)))
/-- one node gets its number -/
theorem cp_Tk {k : Nat} (T : cp_T dA h a aM aO aE (mk + k) n m (cp_N2 N mk as) B E J V) (hk : k < as.length) (hm : mk + as.length ≤ 200) {f g : Nat → Option Nat} (hM : h aM = some (.inl (dA 5, 200, .inr (.inr (.inr (.inr f)))))) (hf : ∀ i, i < mk + k → f i = some (cp_N2 N mk as i)) (hO : h aO = some (.inl (dA 5, 40, .inr (.inr (.inr (.inr g)))))) (c0 : h (as.getD k 0) = some (cp_e0 J V (as.getD k 0))) (hJ : (J (as.getD k 0)).2.2.2.2.2 = nI (mk + k)) (hinj : ∀ i, i < mk + k → cp_N2 N mk as i ≠ as.getD k 0) {j : Nat} (hj : n ≤ j ∨ j < n) :
    ∃ B', cp_T dA (hm_u (hm_u (hm_u (hm_u h (as.getD k 0) (cp_e J V (as.getD k 0))) aM (.inl (dA 5, 200, .inr (.inr (.inr (.inr (va_up f (mk + k) (some (as.getD k 0))))))))) a (.inr (1, [.ref aM, .int (nI (mk + (k + 1))), .ref aO, .int (nI n), .ref aE, .int (nI m)]))) aO (.inl (dA 5, 40, .inr (.inr (.inr (.inr (va_up g j (some (as.getD k 0))))))))) a aM aO aE (mk + (k + 1)) n m (cp_N2 N mk as) B' E J V := by
  obtain ⟨t1, ⟨fM, t2, t2'⟩, ⟨fO, t3, t3'⟩, ⟨fE, t4, t4'⟩, t5, t6, t7, x1, x2, x3, y1, y2, y3⟩ := T
  have fO_g : fO = g := by
    rw [t3] at hO
    simpa using hO
  subst fO_g
  have eN : cp_N2 N mk as (mk + k) = as.getD k 0 := by unfold cp_N2; rw [if_neg (by omega), Nat.add_sub_cancel_left]
  generalize hx : as.getD k 0 = x at *
  have xa : x ≠ a := hm_ne c0 t1 rfl
  have xM : x ≠ aM := hm_ne c0 t2 rfl
  have xO : x ≠ aO := hm_ne c0 t3 rfl
  have xE : x ≠ aE := hm_ne c0 t4 rfl
  have aaM : a ≠ aM := hm_ne t1 t2 rfl
  have aaO : a ≠ aO := hm_ne t1 t3 rfl
  have aaE : a ≠ aE := hm_ne t1 t4 rfl
  have nN : ∀ i, i < mk + k → cp_N2 N mk as i ≠ aM ∧ cp_N2 N mk as i ≠ aO ∧ cp_N2 N mk as i ≠ a := fun i hi => ⟨hm_ne (t5 i hi) t2 rfl, hm_ne (t5 i hi) t3 rfl, hm_ne (t5 i hi) t1 rfl⟩
  have ex : (∃ i, i < mk + (k + 1) ∧ cp_N2 N mk as i = x) := ⟨mk + k, by omega, eN⟩
  refine ⟨fun i => if i = j then x else B i, ?_, ⟨va_up f (mk + k) (some x), ?_, fun i hi => ?_⟩, ⟨va_up fO j (some x), hm_s, fun i hi => ?_⟩, ⟨fE, ?_, t4'⟩, fun i hi => ?_, fun i hi => ?_, fun i hi => ?_, x1, x2, x3, by omega, y2, y3⟩
  · rw [hm_n aaO, hm_s]
  · rw [hm_n x1, hm_n (Ne.symm aaM), hm_s]
  · unfold va_up
    by_cases q : i = mk + k
    · rw [if_pos q, q, eN]
    · rw [if_neg q]
      exact hf i (by omega)
  · unfold va_up
    by_cases q : i = j
    · simp only [q, if_true]
    · simp only [q, if_false]; exact t3' i hi
  · rw [hm_n (Ne.symm x3), hm_n (Ne.symm aaE), hm_n (Ne.symm x2), hm_n (Ne.symm xE)]; exact t4
  · by_cases q : i = mk + k
    · rw [q, eN, hm_n xO, hm_n xa, hm_n xM, hm_s]
    · have := nN i (by omega)
      rw [hm_n this.2.1, hm_n this.2.2, hm_n this.1, hm_n (hinj i (by omega))]
      exact t5 i (by omega)
  · by_cases q : i = j
    · simp only [q, if_true]; exact ex
    · simp only [q, if_false]
      obtain ⟨i2, o1, o2⟩ := t6 i hi
      exact ⟨i2, by omega, o2⟩
  · obtain ⟨i2, o1, o2⟩ := t7 i hi
    exact ⟨i2, by omega, o2⟩
/-- the second loop -/
theorem cp_putL (hm : mk + as.length ≤ 200) (hn : n + as.length ≤ 40) (hs : sp ≤ n) (hJ : ∀ k, k < as.length → (J (as.getD k 0)).2.2.2.2.2 = nI (mk + k)) (hinj : ∀ k, k < as.length → ∀ i, i < mk + k → cp_N2 N mk as i ≠ as.getD k 0) (hNr : ∀ k, k < n → ∃ i, i < mk ∧ N i = B k) (hd1 : as ≠ [] → d ≠ aM ∧ d ≠ aO) {K : hm_T → hz_T → Prop} : ∀ (r fu k : Nat) (h : hm_T) (B' : Nat → Nat), k + r = as.length → r < fu → cp_T dA h a aM aO aE (mk + k) n m (cp_N2 N mk as) B' E J V → ja dA h rd d as → (∃ f : Nat → Option Nat, h aO = some (.inl (dA 5, 40, .inr (.inr (.inr (.inr f))))) ∧ (∀ i, i < sp → f i = some (B i)) ∧ (∀ i, i < k → f (sp + i) = some (as.getD i 0)) ∧ ∀ i, sp ≤ i → i < n → f (i + as.length) = some (B i)) → (∀ j, k ≤ j → j < as.length → h (as.getD j 0) = some (cp_e0 J V (as.getD j 0))) → (∀ h1, cp_T dA h1 a aM aO aE (mk + as.length) (n + as.length) m (cp_N2 N mk as) (cp_B2 B sp as) E J (cp_sp V (cp_B2 B sp as) (n + as.length)) → cp_F h h1 a aM aO aE (mk + as.length) (cp_N2 N mk as) → K h1 z) → w_Tree_put_44 dA a K fu (some rd) (nI sp) (nI as.length) (nI k) h z := by
  intro r
  induction r with
  | zero =>
    intro fu k h B' hk hr T j ⟨f, hO, f1, f2, f3⟩ hc hK
    obtain ⟨fu, rfl⟩ : ∃ f, fu = f + 1 := ⟨fu - 1, by omega⟩
    obtain rfl : k = as.length := by omega
    unfold w_Tree_put_44
    refine if_yes (nI_le (Nat.le_refl _) (by omega)) (cg_I_of T.1 rfl (cg_p_of T.1 (show 3 < 6 by decide) ?_))
    rw [nI_add]
    have T1 := cp_Tn (n2 := n + as.length) (B2 := cp_B2 B sp as) T hO hn (fun i hi => by
      unfold cp_B2
      by_cases q : i < sp
      · rw [if_pos q]
        obtain ⟨i2, o1, o2⟩ := hNr i (by omega)
        exact ⟨f1 i q, i2, by omega, by unfold cp_N2; rw [if_pos o1]; exact o2⟩
      · rw [if_neg q]
        by_cases q2 : i < sp + as.length
        · rw [if_pos q2]
          refine ⟨?_, mk + (i - sp), by omega, ?_⟩
          · have := f2 (i - sp) (by omega)
            rwa [show sp + (i - sp) = i by omega] at this
          · unfold cp_N2; rw [if_neg (by omega), Nat.add_sub_cancel_left]
        · rw [if_neg q2]
          obtain ⟨i2, o1, o2⟩ := hNr (i - as.length) (by omega)
          refine ⟨?_, i2, by omega, by unfold cp_N2; rw [if_pos o1]; exact o2⟩
          have := f3 (i - as.length) (by omega) (by omega)
          rwa [show i - as.length + as.length = i by omega] at this)
    exact cg_c_of T1.1 (cp_setPlaces T1 (fun h1 T2 F2 => hK h1 T2 ((cp_F.u (Or.inl rfl)).trans F2)))
  | succ r ih =>
    intro fu k h B' hk hr T j ⟨g, hO, f1, f2, f3⟩ hc hK
    obtain ⟨fu, rfl⟩ : ∃ f, fu = f + 1 := ⟨fu - 1, by omega⟩
    have hkl : k < as.length := by omega
    have c0 := hc k (Nat.le_refl _) hkl
    obtain ⟨f, hM, hf⟩ := T.2.1
    obtain ⟨mo, j1, j2⟩ := id j
    have hne : as ≠ [] := fun w => by rw [w] at hkl; exact Nat.not_lt_zero _ hkl
    have hb := T.2.2.2.2.2.2.2.2.2.2
    have hx3 := T.2.2.2.2.2.2.2
    rcases j2 with j2 | ⟨_, nn, ff, c3, w1, w2, w3⟩
    · exact absurd j2.1 hne
    have eN : cp_N2 N mk as (mk + k) = as.getD k 0 := by unfold cp_N2; rw [if_neg (by omega), Nat.add_sub_cancel_left]
    obtain ⟨B2, T2⟩ := cp_Tk (j := sp + k) T hkl hm hM hf hO c0 (hJ k hkl) (hinj k hkl) (by omega)
    have xa : as.getD k 0 ≠ a := hm_ne c0 T.1 rfl
    have xM : as.getD k 0 ≠ aM := hm_ne c0 hM rfl
    have xO : as.getD k 0 ≠ aO := hm_ne c0 hO rfl
    have aaM : a ≠ aM := hm_ne T.1 hM rfl
    have aaO : a ≠ aO := hm_ne T.1 hO rfl
    unfold w_Tree_put_44
    refine if_no (nI_ge hkl (by omega)) (cg_d_of ⟨d, as.length, mo, nn, k, as.getD k 0, ff, j1, c3, rfl, hkl, w1, by omega, w3 k hkl, cg_c_of c0 (cg_I_of T.1 rfl (cg_p_of c0 (show 5 < 9 by decide) ?_))⟩)
    have e1 : cp_e J V (as.getD k 0) = .inr (8, [.int (J (as.getD k 0)).1, va_rf (J (as.getD k 0)).2.1, .int (J (as.getD k 0)).2.2.1, .ref (J (as.getD k 0)).2.2.2.1, .ref (J (as.getD k 0)).2.2.2.2.1, .int (nI (mk + k)), .int (V (as.getD k 0)).1, .ref (V (as.getD k 0)).2.1, .ref (V (as.getD k 0)).2.2]) := by unfold cp_e; rw [hJ k hkl]
    rw [e1] at T2
    have M1 : ∀ (b : Nat) (e : va_E), b ≠ as.getD k 0 → (hm_u h (as.getD k 0) e) b = h b := fun b e w => hm_n w
    refine cg_R_ref (x := aM) (by rw [M1 _ _ (Ne.symm xa)]; exact T.1) rfl (cg_I_of (by rw [M1 _ _ (Ne.symm xa)]; exact T.1) rfl (cg_d_of (cg_c_of hm_s (cg_sr_of (by rw [M1 _ _ (Ne.symm xM)]; exact hM) (by omega) (by omega) ?_))))
    refine cg_I_of (by rw [hm_n aaM, M1 _ _ (Ne.symm xa)]; exact T.1) rfl (cg_p_of (fs := [.ref aM, .int (nI (mk + k)), .ref aO, .int (nI n), .ref aE, .int (nI m)]) (by rw [hm_n aaM, M1 _ _ (Ne.symm xa)]; exact T.1) (show 1 < 6 by decide) ?_)
    rw [nI_1]
    refine cg_R_ref (x := aO) hm_s rfl (cg_d_of (cg_c_of (by rw [hm_n xa, hm_n xM, hm_s]) ?_))
    rw [nI_add, nI_1]
    refine cg_sr_of (by rw [hm_n (Ne.symm aaO), hm_n (Ne.symm hx3.1), M1 _ _ (Ne.symm xO)]; exact hO) (by omega) (by omega) ?_
    have F1 : cp_F h (hm_u (hm_u (hm_u (hm_u h (as.getD k 0) (.inr (8, [.int (J (as.getD k 0)).1, va_rf (J (as.getD k 0)).2.1, .int (J (as.getD k 0)).2.2.1, .ref (J (as.getD k 0)).2.2.2.1, .ref (J (as.getD k 0)).2.2.2.2.1, .int (nI (mk + k)), .int (V (as.getD k 0)).1, .ref (V (as.getD k 0)).2.1, .ref (V (as.getD k 0)).2.2]))) aM (.inl (dA 5, 200, .inr (.inr (.inr (.inr (va_up f (mk + k) (some (as.getD k 0))))))))) a (.inr (1, [.ref aM, .int (nI (mk + (k + 1))), .ref aO, .int (nI n), .ref aE, .int (nI m)]))) aO (.inl (dA 5, 40, .inr (.inr (.inr (.inr (va_up g (sp + k) (some (as.getD k 0))))))))) a aM aO aE (mk + as.length) (cp_N2 N mk as) := ((((cp_F.u (Or.inr (Or.inr (Or.inr (Or.inr ⟨mk + k, by omega, eN⟩))))).trans (cp_F.u (Or.inr (Or.inl rfl)))).trans (cp_F.u (Or.inl rfl))).trans (cp_F.u (Or.inr (Or.inr (Or.inl rfl)))))
    have xd : as.getD k 0 ≠ d := hm_ne c0 c3 rfl
    have xrd : as.getD k 0 ≠ rd := hm_ne c0 j1 rfl
    refine ih fu (k + 1) _ B2 (by omega) (by omega) T2 ?_ ⟨_, hm_s, fun i hi => ?_, fun i hi => ?_, fun i h1 h2 => ?_⟩ (fun jj h1 h2 => ?_) (fun h1 T1 F2 => hK h1 T1 (F1.trans F2))
    · refine ⟨mo, ?_, Or.inr ⟨hne, nn, ff, ?_, w1, w2, w3⟩⟩
      · rw [hm_n (hm_ne j1 hO rfl), hm_n (hm_ne j1 T.1 rfl), hm_n (hm_ne j1 hM rfl), M1 _ _ (Ne.symm xrd)]; exact j1
      · rw [hm_n (hd1 hne).2, hm_n (hm_ne c3 T.1 rfl), hm_n (hd1 hne).1, M1 _ _ (Ne.symm xd)]; exact c3
    · unfold va_up; rw [if_neg (by omega)]; exact f1 i hi
    · unfold va_up
      by_cases q : i = k
      · rw [if_pos (by omega), q]
      · rw [if_neg (by omega)]; exact f2 i (by omega)
    · unfold va_up; rw [if_neg (by omega)]; exact f3 i h1 h2
    · have c9 := hc jj (by omega) h2
      have nk : as.getD jj 0 ≠ as.getD k 0 := fun w => by
        have := hinj jj h2 (mk + k) (by omega)
        rw [eN] at this
        exact this w.symm
      rw [hm_n (hm_ne c9 hO rfl), hm_n (hm_ne c9 T.1 rfl), hm_n (hm_ne c9 hM rfl), M1 _ _ nk]; exact c9
/-- the first loop: room is made -/
theorem cp_putM (hm : mk + as.length ≤ 200) (hn : n + as.length ≤ 40) (hs : sp ≤ n) (hJ : ∀ k, k < as.length → (J (as.getD k 0)).2.2.2.2.2 = nI (mk + k)) (hinj : ∀ k, k < as.length → ∀ i, i < mk + k → cp_N2 N mk as i ≠ as.getD k 0) (hNr : ∀ k, k < n → ∃ i, i < mk ∧ N i = B k) (hd1 : as ≠ [] → d ≠ aM ∧ d ≠ aO) {K : hm_T → hz_T → Prop} : ∀ (r fu : Nat) (h : hm_T) (B' : Nat → Nat), sp + r ≤ n → r < fu → cp_T dA h a aM aO aE mk n m N B' E J V → ja dA h rd d as → (∃ f : Nat → Option Nat, h aO = some (.inl (dA 5, 40, .inr (.inr (.inr (.inr f))))) ∧ (∀ i, i < sp + r → f i = some (B i)) ∧ ∀ i, sp + r ≤ i → i < n → f (i + as.length) = some (B i)) → (∀ j, j < as.length → h (as.getD j 0) = some (cp_e0 J V (as.getD j 0))) → (∀ h1, cp_T dA h1 a aM aO aE (mk + as.length) (n + as.length) m (cp_N2 N mk as) (cp_B2 B sp as) E J (cp_sp V (cp_B2 B sp as) (n + as.length)) → cp_F h h1 a aM aO aE (mk + as.length) (cp_N2 N mk as) → K h1 z) → w_Tree_put_13 dA a K fu (some rd) (nI sp) (nI as.length) (nI (sp + r) + -1) h z := by
  intro r
  induction r with
  | zero =>
    intro fu h B' hr hf T j ⟨f, hO, f1, f2⟩ hc hK
    obtain ⟨fu, rfl⟩ : ∃ f, fu = f + 1 := ⟨fu - 1, by omega⟩
    unfold w_Tree_put_13
    have hlt : nI (sp + 0) + -1 < nI sp := by
      rw [Int32.lt_iff_toInt_lt]
      cases sp with
      | zero => decide
      | succ q =>
        rw [show q + 1 + 0 = q + 1 by omega, ← nI_1, Int32.add_assoc, show (1 : Int32) + -1 = 0 from rfl, Int32.add_zero, nI_1, nI_toInt (by omega), nI_toInt (by omega)]
        omega
    refine if_yes hlt ?_
    have T' : cp_T dA h a aM aO aE (mk + 0) n m (cp_N2 N mk as) B' E J V := by
      obtain ⟨t1, ⟨fM, t2, t2'⟩, t3, t4, t5, t6, t7, rr⟩ := T
      have eN : ∀ i, i < mk → cp_N2 N mk as i = N i := fun i hi => if_pos hi
      exact ⟨t1, ⟨fM, t2, fun i hi => by rw [eN i hi]; exact t2' i hi⟩, t3, t4, fun i hi => by rw [eN i hi]; exact t5 i hi, fun i hi => by obtain ⟨k, o1, o2⟩ := t6 i hi; exact ⟨k, o1, by rw [eN k o1]; exact o2⟩, fun i hi => by obtain ⟨k, o1, o2⟩ := t7 i hi; exact ⟨k, o1, by rw [eN k o1]; exact o2⟩, rr⟩
    exact cp_putL hm hn hs hJ hinj hNr hd1 as.length mF 0 h B' (by omega) (by unfold mF; omega) T' j ⟨f, hO, fun i hi => f1 i (by omega), fun i hi => absurd hi (Nat.not_lt_zero _), fun i h1 h2 => f2 i (by omega) h2⟩ (fun j _ hj => hc j hj) hK
  | succ r ih =>
    intro fu h B' hr hf T j ⟨f, hO, f1, f2⟩ hc hK
    obtain ⟨fu, rfl⟩ : ∃ f, fu = f + 1 := ⟨fu - 1, by omega⟩
    have e1 : nI (sp + (r + 1)) + -1 = nI (sp + r) := by rw [show sp + (r + 1) = (sp + r) + 1 by omega, ← nI_1, Int32.add_assoc, show (1 : Int32) + -1 = 0 from rfl, Int32.add_zero]
    have hx3 := T.2.2.2.2.2.2.2
    obtain ⟨i2, o1, o2⟩ := hNr (sp + r) (by omega)
    have hnb : h (B (sp + r)) = some (cp_e J V (B (sp + r))) := by rw [← o2]; exact T.2.2.2.2.1 i2 o1
    unfold w_Tree_put_13
    rw [e1]
    refine if_no (nI_nlt (by omega) (by omega)) (cg_R_ref T.1 rfl (cg_R_ref T.1 rfl (cg_d_of (cg_ar_of hO (by omega) (by omega) (f1 (sp + r) (by omega)) (cg_d_of (cg_d_of (cg_c_of hnb ?_)))))))
    rw [nI_add]
    refine cg_sr_of hO (by omega) (by omega) ?_
    have Oa : a ≠ aO := hm_ne T.1 hO rfl
    refine ih fu _ (fun i => if i = sp + r + as.length then B (sp + r) else B' i) (by omega) (by omega) (cp_To T hO ⟨i2, o1, o2⟩ (fun i hi hne => by simp only [hne, if_false]) (fun hj => by simp only [if_true])) ?_ ⟨_, hm_s, fun i hi => ?_, fun i h1 h2 => ?_⟩ (fun jj hj => ?_) (fun h1 T1 F2 => hK h1 T1 ((cp_F.u (Or.inr (Or.inr (Or.inl rfl)))).trans F2))
    · obtain ⟨mo, j1, j2⟩ := id j
      refine j.mo (Y := fun b => b = aO) (hm_mo.u rfl) (hm_ne j1 hO rfl) (fun e => (hd1 e).2)
    · by_cases q : as.length = 0
      · unfold va_up
        by_cases q2 : i = sp + r + as.length
        · omega
        · rw [if_neg q2]; exact f1 i (by omega)
      · unfold va_up
        rw [if_neg (by omega)]; exact f1 i (by omega)
    · unfold va_up
      by_cases q : i = sp + r
      · rw [if_pos (by omega), q]
      · rw [if_neg (by omega)]; exact f2 i (by omega) h2
    · rw [hm_n (hm_ne (hc jj hj) hO rfl)]; exact hc jj hj
theorem cp_putT (T : cp_T dA h a aM aO aE mk n m N B E J V) (j : ja dA h rd d as) (hm : mk + as.length ≤ 200) (hn : n + as.length ≤ 40) (hs : sp ≤ n) (hJ : ∀ k, k < as.length → (J (as.getD k 0)).2.2.2.2.2 = nI (mk + k)) (hinj : ∀ k, k < as.length → ∀ i, i < mk + k → cp_N2 N mk as i ≠ as.getD k 0) (hd1 : as ≠ [] → d ≠ aM ∧ d ≠ aO) (hc : ∀ j, j < as.length → h (as.getD j 0) = some (cp_e0 J V (as.getD j 0))) {K : hm_T → hz_T → Prop} (hK : ∀ h1, cp_T dA h1 a aM aO aE (mk + as.length) (n + as.length) m (cp_N2 N mk as) (cp_B2 B sp as) E J (cp_sp V (cp_B2 B sp as) (n + as.length)) → cp_F h h1 a aM aO aE (mk + as.length) (cp_N2 N mk as) → K h1 z) : w_Tree_put dA a (some rd) (nI sp) K h z := by
  obtain ⟨mo, j1, j2⟩ := id j
  obtain ⟨f, hO, hf⟩ := id T.2.2.1
  unfold w_Tree_put
  refine cg_d_of ⟨d, as.length, mo, j1, cg_I_of T.1 rfl ?_⟩
  have e1 : nI n - 1 = nI (sp + (n - sp)) + -1 := by rw [show sp + (n - sp) = n by omega, Int32.sub_eq_add_neg]
  rw [e1]
  exact cp_putM hm hn hs hJ hinj T.2.2.2.2.2.1 hd1 (n - sp) mF h B (by omega) (by unfold mF; omega) T j ⟨f, hO, fun i hi => hf i (by omega), fun i h1 h2 => by omega⟩ hc hK
end PQ1
-- the reader is made; the limits
/-- without the cell q -/
def hm_del (h : hm_T) (q : Nat) : hm_T := fun b => if b = q then none else h b
theorem hm_del_o {h : hm_T} {q b : Nat} (w : b ≠ q) : hm_del h q b = h b := if_neg w
theorem hm_del_s {h : hm_T} {q : Nat} : hm_del h q q = none := if_pos rfl
section PQ2
variable {dA : Nat → ClassId} {h h1 : hm_T} {z z1 : hz_T} {y mk n m : Nat} {D D2 : Nat → nd} {xs ws ws2 : List Nat} {rs : List Int32} {ch : Int32} {bu bv sc sv fo a aM aO aE : Nat} {N B E : Nat → Nat} {J : Nat → Int32 × Option Nat × Int32 × Nat × Nat × Int32} {V : Nat → Int32 × Nat × Nat}
theorem cPCS.buf (C : cPCS dA y h z mk n D m D2 xs rs ch bu bv sc sv fo a aM aO aE N B E J V ws) {xs2 : List Nat} {u : Nat} (jB1 : jb dA h1 bu u xs2) (hu : u = bv ∨ h u = none) (M : hm_mo h h1 (fun b => b = bu ∨ b = bv)) (Mz : hz_mo z z1) : cPCS dA y h1 z1 mk n D m D2 xs2 rs ch bu u sc sv fo a aM aO aE N B E J V ws := by
  obtain ⟨S, jB, jS, ⟨g, jF, jG⟩, T, P, d, d2, r⟩ := C
  obtain ⟨mb, nb, fb, b1, b2, br⟩ := id jB
  obtain ⟨ms, ns, fs, s1, s2, sr⟩ := id jS
  have hY : ∀ b, (b = bu ∨ b = bv) → cp_Q y bu bv sc sv fo a aM aO aE mk N b := fun b q => Or.inr (Or.inr (q.elim Or.inl (fun q => Or.inr (Or.inl q))))
  have hQ : ∀ (b : Nat) (e : va_E), h b = some e → ¬ cp_Q y bu bv sc sv fo a aM aO aE mk N b → ¬ cp_Q y bu u sc sv fo a aM aO aE mk N b := by
    intro b e hb nq q
    rcases q with q | q | q | q | q | q | q
    · exact nq (Or.inl q)
    · exact nq (Or.inr (Or.inl q))
    · exact nq (Or.inr (Or.inr (Or.inl q)))
    · rcases hu with k | k
      · exact nq (Or.inr (Or.inr (Or.inr (Or.inl (q.trans k)))))
      · rw [q, k] at hb; cases hb
    · exact nq (Or.inr (Or.inr (Or.inr (Or.inr (Or.inl q)))))
    · exact nq (Or.inr (Or.inr (Or.inr (Or.inr (Or.inr (Or.inl q))))))
    · exact nq (Or.inr (Or.inr (Or.inr (Or.inr (Or.inr (Or.inr q))))))
  have nu : ∀ {b : Nat} {e : va_E}, h b = some e → bv ≠ b → u ≠ b := by
    intro b e hb nb q
    rcases hu with k | k
    · exact nb (k.symm.trans q)
    · rw [← q, k] at hb; cases hb
  refine ⟨M _ _ S (fun q => q.elim (hm_ne S b1 rfl) (hm_ne S b2 rfl)), jB1, jS.mo M (fun q => q.elim (Ne.symm r.1) (hm_ne s1 b2 rfl)) (fun q => q.elim (hm_ne s2 b1 rfl) (Ne.symm r.2.1)), ⟨g, M _ _ jF (fun q => q.elim (hm_ne jF b1 rfl) (Ne.symm r.2.2.1)), jG⟩, T.mo M (fun b hb q => ?_), P, d.mo M Mz hY hQ (fun _ _ => rfl), d2.mo M Mz hY hQ (fun _ _ => rfl), r.1, nu s2 r.2.1, nu jF r.2.2.1, r.2.2.2⟩
  rcases q with q | q
  · subst q; exact cp_nX T b1 rfl rfl rfl hb
  · subst q; exact cp_nX T b2 rfl rfl rfl hb
theorem cPCS.pic (C : cPCS dA y h z mk n D m D2 xs rs ch bu bv sc sv fo a aM aO aE N B E J V ws) : cPIC dA y h z mk n D m D2 xs rs ch := ⟨bu, bv, sc, sv, fo, a, aM, aO, aE, N, B, E, J, V, ws, C⟩
/-- the markup reader's constructor -/
theorem rl_init {q t : Nat} {fs : List Value} (c0 : h q = some (.inr (6, fs))) (hf : fs.length = 6) {c s : Nat} (hc : 1 ≤ c) (hs : 3 ≤ s) {K : hm_T → hz_T → Prop} (hK : ∀ (h1 : hm_T) (rd : Nat), h1 q = some (r6c t 0 (-1) rd sc 0) → ja dA h1 rd (dA 99) [] → h rd = none → hm_mo h h1 (fun b => b = q) → K h1 z) : w_MarkupReader_init dA q (some t) (some sc) c s K h z := by
  obtain ⟨f0, f1, f2, f3, f4, f5, rfl⟩ : ∃ a b c d e f, fs = [a, b, c, d, e, f] := by
    match fs, hf with
    | [a, b, c, d, e, f], _ => exact ⟨a, b, c, d, e, f, rfl⟩
  unfold w_MarkupReader_init w_TextReader_init6
  refine cg_c_of c0 (cg_p_of c0 (show 0 < 6 by decide) (cg_p_of hm_s (show 1 < 6 by decide) (cg_p_of hm_s (show 2 < 6 by decide) ?_)))
  rw [hm_uu, hm_uu]
  refine cg_new_of hc hs (fun rd hrd => cg_c_of hm_s (cg_rm_0 (ja_init hm_s (fun h5 j5 M5 => ?_))))
  have qr : q ≠ rd := fun w => by rw [← w, hm_s] at hrd; cases hrd
  have hr0 : h rd = none := by rw [hm_n (Ne.symm qr)] at hrd; exact hrd
  have c5 := M5 _ _ (by rw [hm_n qr, hm_s]) qr
  refine cg_p_of c5 (show 3 < 6 by decide) (cg_p_of hm_s (show 4 < 6 by decide) (cg_p_of hm_s (show 5 < 6 by decide) ?_))
  rw [hm_uu, hm_uu]
  obtain ⟨mo, j1, j2⟩ := id j5
  refine hK _ rd hm_s (j5.mo (Y := fun b => b = q) (hm_mo.u rfl) (Ne.symm qr) (fun w => absurd rfl w)) hr0 (fun b e hb w => ?_)
  have br : b ≠ rd := fun w2 => by rw [w2, hr0] at hb; cases hb
  rw [hm_n w]
  refine M5 _ _ ?_ br
  rw [hm_n br, hm_n w]
  exact hb
def a_over (W : List wn) (ov : Bool) : Bool := ov || W.any (fun w => decide (16 < w.2.2.2.1.length))
end PQ2
section PQ2b
variable {dA : Nat → ClassId} {h0 : hm_T} {z0 : hz_T} {sv0 : Nat} {op : Option Nat} {y tt : Nat} {xs : List Nat} {rd sc : Nat} {h : hm_T} {z : hz_T} {p : Nat} {wr : Int32} {d : Nat} {as : List Nat} {sv : Nat} {ws : List Nat} {ov : Bool} {W : List wn} {E : Nat → Prop}
theorem rl_limitsL (D : rRD dA h0 z0 sv0 op y tt xs rd sc eNo h z p wr d as sv ws (tmI ov) W) (hl : as.length = W.length) (hW : W.length ≤ 130) (hlab : ∀ i, i < W.length → (W.getD i wn0).2.2.2.1.length < 1000) {K : Int32 → hm_T → hz_T → Prop} (hK : K (tmI (a_over W ov)) h z) : ∀ (r fu k : Nat), k + r = W.length → r < fu → (∀ i, i < k → (W.getD i wn0).2.2.2.1.length ≤ 16) → w_MarkupReader_passesLimits_2 dA y K fu (nI k) h z := by
  obtain ⟨mo, r1, r2⟩ := id D.2.2.2.1
  intro r
  induction r with
  | zero =>
    intro fu k hk hf hh
    obtain ⟨fu, rfl⟩ : ∃ f, fu = f + 1 := ⟨fu - 1, by omega⟩
    unfold w_MarkupReader_passesLimits_2
    refine cg_R_ref D.1 rfl (cg_d_of ⟨d, as.length, mo, r1, if_yes (nI_le (by omega) (by omega)) (cg_I_of D.1 rfl ⟨tmI_01 ov, ?_⟩)⟩)
    have e : a_over W ov = ov := by
      unfold a_over
      have : W.any (fun w => decide (16 < w.2.2.2.1.length)) = false := by
        rw [List.any_eq_false]
        intro w hw
        obtain ⟨i, hi, e⟩ := List.mem_iff_getElem.mp hw
        have := hh i (by omega)
        rw [List.getD_eq_getElem?_getD, List.getElem?_eq_getElem hi, Option.getD_some, e] at this
        simp; omega
      rw [this, Bool.or_false]
    rw [e] at hK
    exact hK
  | succ r ih =>
    intro fu k hk hf hh
    obtain ⟨fu, rfl⟩ : ∃ f, fu = f + 1 := ⟨fu - 1, by omega⟩
    have hne : as ≠ [] := fun w => by rw [w] at hl; simp at hl; omega
    rcases r2 with j2 | ⟨_, nn, ff, c3, w1, w2, w3⟩
    · exact absurd j2.1 hne
    obtain ⟨l, aq, tx, kt, k1, _, _, ⟨lf, L1, L2⟩, _⟩ := (D.2.2.2.2.2.1 k (by omega)).1
    have hl9 := hlab k (by omega)
    unfold w_MarkupReader_passesLimits_2
    refine cg_R_ref D.1 rfl (cg_d_of ⟨d, as.length, mo, r1, if_no (nI_ge (by omega) (by omega)) (cg_R_ref D.1 rfl (cg_d_of ⟨d, as.length, mo, nn, k, as.getD k 0, ff, r1, c3, rfl, by omega, w1, by omega, w3 k (by omega), cg_c_of k1 (cg_R_ref k1 rfl (cg_d_of (cg_al_of L1 ?_)))⟩))⟩)
    by_cases q : (W.getD k wn0).2.2.2.1.length ≤ 16
    · rw [nI_1]
      exact if_yes (nI_le (b := 16) q (by decide)) (ih fu (k + 1) (by omega) (by omega) (fun i hi => by
        by_cases w : i = k
        · rw [w]; exact q
        · exact hh i (by omega)))
    · have e : a_over W ov = true := by
        unfold a_over
        have : W.any (fun w => decide (16 < w.2.2.2.1.length)) = true := by
          rw [List.any_eq_true]
          refine ⟨W.getD k wn0, ?_, decide_eq_true (by omega)⟩
          rw [List.getD_eq_getElem?_getD, List.getElem?_eq_getElem (by omega), Option.getD_some]
          exact List.getElem_mem _
        rw [this, Bool.or_true]
      rw [e] at hK
      exact if_no (nI_ge (a := 16) (by omega) (by omega)) hK
theorem rl_limits (D : rRD dA h0 z0 sv0 op y tt xs rd sc eNo h z p wr d as sv ws (tmI ov) W) (hl : as.length = W.length) (hW : W.length ≤ 130) (hlab : ∀ i, i < W.length → (W.getD i wn0).2.2.2.1.length < 1000) {K : Int32 → hm_T → hz_T → Prop} (hK : K (tmI (a_over W ov)) h z) : w_MarkupReader_passesLimits dA y K h z := rl_limitsL D hl hW hlab hK W.length mF 0 (by omega) (by unfold mF; omega) (fun i hi => absurd hi (Nat.not_lt_zero _))
/-- the world at the reader's start -/
theorem rl_start {q t rd0 : Nat} {h2 h3 : hm_T} {z2 : hz_T} {ws0 : List Nat} (jS : jb dA (hm_del h2 q) sc sv ws0) (R : h3 q = some (r6c t 0 (-1) rd0 sc 0)) (jr : ja dA h3 rd0 (dA 99) []) (hrd : h2 rd0 = none) (M : hm_mo h2 h3 (fun b => b = q)) (T : rT z2 t xs) : rRD dA (hm_del h2 q) z2 sv op q t xs rd0 sc eNo h3 z2 0 (-1) (dA 99) [] sv ws0 (tmI false) [] := by
  have M0 : hm_mo (hm_del h2 q) h3 (fun _ => False) := fun b e hb _ => by
    by_cases w : b = q
    · rw [w, hm_del_s] at hb; cases hb
    · rw [hm_del_o w] at hb
      exact M _ _ hb w
  refine ⟨R, T, jS.mo M0 id id, jr, ⟨Nat.le_refl _, fun i j hi => absurd hi (Nat.not_lt_zero _)⟩, fun i hi => absurd hi (Nat.not_lt_zero _), M0.weak (fun b w => w.elim), hz_mo.refl, Or.inl rfl, fun w => absurd rfl w, hm_del_s, ?_, Or.inl rfl⟩
  by_cases w : rd0 = q
  · rw [w, hm_del_s]
  · rw [hm_del_o w]; exact hrd
end PQ2b
-- reading a document, reading one node
def p_fin (xs : List Nat) (r : pR) : Nat ⊕ (List wn × Bool) := match r with
  | .inl e => .inl e
  | .inr (q, W, ov) => if q = xs.length then .inr (W, ov) else .inl q
def p_doc (xs : List Nat) : Nat ⊕ (List wn × Bool) := if xs.getD 0 0 ≠ 60 then .inl 0 else if a_small (xs.getD 1 0) = false then .inl 1 else p_fin xs (p_F xs 8 none 0 [1] 0 [] false)
def p_one (xs : List Nat) (dep : Nat) (lab : List Int32) : Nat ⊕ (List wn × Bool) := if xs.length = 0 then .inl 0 else p_fin xs (p_piece (p_F xs 8) xs none dep lab 0 [] false)
theorem pc_bound {r : pR} {L c s : Nat} (h1 : ∀ e, r = .inl e → e ≤ L) (h2 : ∀ q W ov, r = .inr (q, W, ov) → q ≤ L) (hc : 40 * L + 40 ≤ c) (hs : 2600 * L + 2600 ≤ s) : pcC r 0 ≤ c ∧ pcS r 0 ≤ s := by
  cases r with
  | inl e => have := h1 e rfl; exact ⟨by simp only [pcC]; omega, by simp only [pcS]; omega⟩
  | inr x => obtain ⟨q, W, ov⟩ := x; have := h2 q W ov rfl; exact ⟨by simp only [pcC]; omega, by simp only [pcS]; omega⟩
section PQ3
variable {dA : Nat → ClassId} {h0 : hm_T} {z0 : hz_T} {sv0 : Nat} {op : Option Nat} {od y tt : Nat} {xs : List Nat} {rd sc : Nat} {ws0 : List Nat} {h : hm_T} {z : hz_T} {d sv : Nat} {ws : List Nat}
theorem rl_end {p : Nat} {as : List Nat} {ov : Bool} {W : List wn} (D : rRD dA h0 z0 sv0 op y tt xs rd sc eNo h z p (-1) d as sv ws (tmI ov) W) (hp : p ≤ xs.length) {K : Int32 → hm_T → hz_T → Prop} (k1 : p = xs.length → K 1 h z) (k0 : p ≠ xs.length → rEr dA h0 z0 sv0 y tt rd sc p (K 0)) : w_TextReader_readEnd6 dA y K h z := by
  have hlen := D.2.1.2.1
  exact rl_readEnd D.1 D.2.1 (by omega) k1 (fun w h1 R1 M1 => (D.mo1 R1 M1 hz_mo.refl (tmI_01 ov)).er rfl (k0 w))
theorem rl_doc (J0 : jb dA h0 sc sv0 ws0) (D : rRD dA h0 z0 sv0 none y tt xs rd sc eNo h z 0 (-1) d [] sv ws (tmI false) []) {c s : Nat} (hc : 40 * xs.length + 41 ≤ c) (hs : 2600 * xs.length + 2601 ≤ s) {K : Int32 → hm_T → hz_T → Prop}
    (kok : ∀ W ov, p_doc xs = .inr (W, ov) → ∀ (h1 : hm_T) (z1 : hz_T) (p1 d1 : Nat) (as1 : List Nat) (sv1 : Nat) (ws1 : List Nat), rRD dA h0 z0 sv0 none y tt xs rd sc eNo h1 z1 p1 (-1) d1 as1 sv1 ws1 (tmI ov) W → as1.length = W.length → K 1 h1 z1)
    (kerr : ∀ e, p_doc xs = .inl e → e ≤ xs.length + 1 → rEr dA h0 z0 sv0 y tt rd sc e (K 0)) : w_MarkupReader_readDocument dA y c s K h z := by
  have hlen := D.2.1.2.1
  have hcx := D.2.1.2.2
  have ep : p_doc xs = if xs.getD 0 0 ≠ 60 then .inl 0 else if a_small (xs.getD 1 0) = false then .inl 1 else p_fin xs (p_F xs 8 none 0 [1] 0 [] false) := rfl
  have h1l := getD_lt hcx 0
  have h2l := getD_lt hcx 1
  unfold w_MarkupReader_readDocument
  refine cg_c_of D.1 (rl_seen (i := 0) D.1 D.2.1 (by omega) ?_)
  by_cases g0 : xs.getD 0 0 = 60
  · rw [if_neg (fun w => w g0)] at ep
    have l0 := getD_pos g0 (by decide)
    refine if_yes (by rw [g0]; rfl) (cg_c_of D.1 (rl_seen (i := 1) D.1 D.2.1 (by omega) (cp_small h2l ?_)))
    cases g1 : a_small (xs.getD 1 0) with
    | false =>
      rw [if_pos g1] at ep
      rw [if_neg (show ¬ false = true by decide)]
      exact if_yes rfl (cg_c_of D.1 (rl_fail' (i := 1) D (fun h1 z1 sv1 p1 tm1 ws1 a1 a2 a3 a4 a5 => ⟨Or.inl rfl, kerr _ ep (by omega) h1 z1 sv1 p1 tm1 ws1 a1 a2 a3 a4 a5⟩)))
    | true =>
      rw [if_neg (by rw [g1]; decide)] at ep
      rw [if_pos (show true = true from rfl)]
      have LF := p_F_le (xs := xs) 8 none 0 [1] 0 [] false l0 ⟨g0, g1, by omega, by omega⟩
      have R := pc_bound (r := p_F xs 8 none 0 [1] 0 [] false) (L := xs.length) (c := c - 1) (s := s - 1) (fun e w => (LF.1 e w).2) (fun q W ov w => (LF.2 q W ov w).2.1) (by omega) (by omega)
      refine if_no (by decide) ⟨1, c - 1, s - 1, rfl, by omega, by omega, by omega, fun l hl9 => ?_⟩
      refine cg_si_of (j := 0) hm_s (by omega) (by omega) ?_
      rw [hm_uu]
      have M1 : hm_mo h (hm_u h l (.inl (dA 0, 1, .inl (upd (fun _ => 0) 0 1)))) (fun _ => False) := fun b e hb _ => by rw [hm_n (fun w => by rw [w, hl9] at hb; cases hb)]; exact hb
      have D1 := D.mo1 (p1 := 0) (tm1 := tmI false) (M1 _ _ D.1 id) (M1.weak (fun b w => w.elim)) hz_mo.refl (tmI_01 _)
      have L1 : cp_lab dA (hm_u h l (.inl (dA 0, 1, .inl (upd (fun _ => 0) 0 1)))) l [1] := ⟨_, hm_s, fun j hj => by
        have : j = 0 := by simp at hj; exact hj
        subst this
        rfl⟩
      obtain ⟨mb, nb, fb, b1, b2, br⟩ := id D.2.2.1
      obtain ⟨mo4, r1, r2⟩ := id D.2.2.2.1
      refine cg_c_of D1.1 (cg_rm_of (c1 := c - 1) (s1 := s - 1) (Nat.le_refl _) (Nat.le_refl _) (rl_F J0 (Or.inl ⟨rfl, rfl⟩) 8 _ z 0 d [] sv ws false [] none l [1] (c - 1) (s - 1) _ D1 rfl (fun j w => by cases w) L1 (fun w => by
        rcases w with w | w | w | w | w | w
        · rw [w, D.1] at hl9; cases hl9
        · rw [w, r1] at hl9; cases hl9
        · exact w.2 rfl
        · rw [w, b1] at hl9; cases hl9
        · rw [w, b2] at hl9; cases hl9
        · exact w) (D.fr hl9) (by decide) (Nat.le_refl _) l0 ⟨g0, g1, by decide, by decide⟩ R.1 R.2 (fun q W1 ov1 e h2 z2 d2 as2 sv2 ws2 D2 l2 a2 => ?_) (fun e9 e h2 z2 sv2 p2 tm2 ws2 a1 a2 a3 a4 a5 => ?_)))
      · have e' : p_F xs 8 none 0 [1] 0 [] false = .inr (q, W1, ov1) := e
        rw [e'] at ep
        refine if_no (by decide) (cg_c_of D2.1 (rl_end D2 (LF.2 _ _ _ e').2.1 (fun w => ?_) (fun w h3 z3 sv3 p3 tm3 ws3 a1 a2 a3 a4 a5 => ?_)))
        · exact if_no (by decide) (kok W1 ov1 (by rw [ep]; simp only [p_fin, w, if_true]) h2 z2 q d2 as2 sv2 ws2 D2 l2)
        · exact if_yes rfl (kerr q (by rw [ep]; simp only [p_fin, w, if_false]) (by have := (LF.2 _ _ _ e').2.1; omega) h3 z3 sv3 p3 tm3 ws3 a1 a2 a3 a4 a5)
      · have e' : p_F xs 8 none 0 [1] 0 [] false = .inl e9 := e
        rw [e'] at ep
        exact if_yes rfl (kerr e9 ep (by have := (LF.1 _ e').2; omega) h2 z2 sv2 p2 tm2 ws2 a1 a2 a3 a4 a5)
  · rw [if_pos g0] at ep
    exact if_no (fun w => g0 ((nI_eq (b := 60) (by omega) (by decide)).mp w)) (cg_c_of D.1 (rl_fail' (i := 0) D (fun h1 z1 sv1 p1 tm1 ws1 a1 a2 a3 a4 a5 => ⟨Or.inl rfl, kerr _ ep (by omega) h1 z1 sv1 p1 tm1 ws1 a1 a2 a3 a4 a5⟩)))
theorem rl_one (J0 : jb dA h0 sc sv0 ws0) (O : rOp h0 op od) (hod : 1 ≤ od ∧ od ≤ 6) {l : Nat} {lab : List Int32} (hL : cp_lab dA h l lab) (D : rRD dA h0 z0 sv0 op y tt xs rd sc eNo h z 0 (-1) d [] sv ws (tmI false) []) (nl : ¬ rQ eNo y rd d sc sv [] l) (fl : fr0 h0 sv0 l) (hll : lab.length ≤ 18 + od) {c s : Nat} (hc : 40 * xs.length + 40 ≤ c) (hs : 2600 * xs.length + 2600 ≤ s) {K : Int32 → hm_T → hz_T → Prop}
    (kok : ∀ W ov, p_one xs od lab = .inr (W, ov) → ∀ (h1 : hm_T) (z1 : hz_T) (p1 d1 : Nat) (as1 : List Nat) (sv1 : Nat) (ws1 : List Nat), rRD dA h0 z0 sv0 op y tt xs rd sc eNo h1 z1 p1 (-1) d1 as1 sv1 ws1 (tmI ov) W → as1.length = W.length → K 1 h1 z1)
    (kerr : ∀ e, p_one xs od lab = .inl e → e ≤ xs.length → rEr dA h0 z0 sv0 y tt rd sc e (K 0)) : w_MarkupReader_readOne dA y op (some l) c s K h z := by
  have hlen := D.2.1.2.1
  obtain ⟨⟨u, hu⟩, _, _⟩ := id D.2.1
  have ep : p_one xs od lab = if xs.length = 0 then .inl 0 else p_fin xs (p_piece (p_F xs 8) xs none od lab 0 [] false) := rfl
  unfold w_MarkupReader_readOne
  refine cg_R_ref D.1 rfl (cg_d_of ⟨u, xs, hu, by omega, ?_⟩)
  by_cases g0 : xs.length = 0
  · rw [if_pos g0] at ep
    rw [if_pos g0]
    exact if_no (by decide) (cg_c_of D.1 (rl_fail' (i := 0) D (fun h1 z1 sv1 p1 tm1 ws1 a1 a2 a3 a4 a5 => ⟨Or.inl rfl, kerr _ ep (by omega) h1 z1 sv1 p1 tm1 ws1 a1 a2 a3 a4 a5⟩)))
  · rw [if_neg g0] at ep
    rw [if_neg g0]
    have LF := p_piece_le (p_F_le (xs := xs) 8) none od lab 0 [] false (by omega) ⟨hod.1, hod.2, by omega⟩
    have R := pc_bound (r := p_piece (p_F xs 8) xs none od lab 0 [] false) (L := xs.length) (c := c) (s := s) (fun e w => (LF.1 e w).2) (fun q W ov w => (LF.2 q W ov w).2.1) (by omega) (by omega)
    refine if_yes rfl (cg_c_of D.1 (cg_rm_of (c1 := c) (s1 := s) (Nat.le_refl _) (Nat.le_refl _) (rl_piece J0 O (rl_F J0 O 8) h z 0 d [] sv ws false [] none l lab c s _ D rfl (fun j w => by cases w) hL nl fl hll (Nat.le_refl _) (by omega) ⟨hod.1, hod.2, by omega⟩ R.1 R.2 (fun q W1 ov1 e h2 z2 d2 as2 sv2 ws2 D2 l2 a2 => ?_) (fun e9 e h2 z2 sv2 p2 tm2 ws2 a1 a2 a3 a4 a5 => ?_))))
    · have e' : p_piece (p_F xs 8) xs none od lab 0 [] false = .inr (q, W1, ov1) := e
      rw [e'] at ep
      refine if_no (by decide) (cg_c_of D2.1 (rl_end D2 (LF.2 _ _ _ e').2.1 (fun w => ?_) (fun w h3 z3 sv3 p3 tm3 ws3 a1 a2 a3 a4 a5 => ?_)))
      · exact if_no (by decide) (kok W1 ov1 (by rw [ep]; simp only [p_fin, w, if_true]) h2 z2 q d2 as2 sv2 ws2 D2 l2)
      · exact if_yes rfl (kerr q (by rw [ep]; simp only [p_fin, w, if_false]) (LF.2 _ _ _ e').2.1 h3 z3 sv3 p3 tm3 ws3 a1 a2 a3 a4 a5)
    · have e' : p_piece (p_F xs 8) xs none od lab 0 [] false = .inl e9 := e
      rw [e'] at ep
      exact if_yes rfl (kerr e9 ep (LF.1 _ e').2 h2 z2 sv2 p2 tm2 ws2 a1 a2 a3 a4 a5)
end PQ3
-- what has been read is a tree
def wP (od : Nat) (W : List wn) (par : Option Nat) (dep : Nat) : Prop := (par = none → dep = od ∧ W = []) ∧ ∀ j, par = some j → j < W.length ∧ (W.getD j wn0).1 = 1 ∧ dep = (W.getD j wn0).2.2.1 + 1 ∧ ∀ k, j < k → k < W.length → (W.getD j wn0).2.2.1 < (W.getD k wn0).2.2.1
/-- how many nodes have this parent -/
def wCnt (W : List wn) (j : Nat) : Nat := (W.filter (fun w => decide (w.2.1 = some j))).length
def wLb (W : List wn) (par : Option Nat) (lab : List Int32) : Prop := ∀ j, par = some j → lab = (W.getD j wn0).2.2.2.1 ++ [2 * nI (wCnt W j) + 1]
/-- a node that may follow W -/
def wNx (od : Nat) (W : List wn) (w : wn) : Prop := (1 ≤ w.1 ∧ w.1 < 4) ∧ wP od W w.2.1 w.2.2.1 ∧ (w.2.2.2.1.length ≤ 18 + w.2.2.1 ∧ w.2.2.1 ≤ 6 ∧ (w.1 = 1 → w.2.2.1 ≤ 5) ∧ wLb W w.2.1 w.2.2.2.1) ∧ (∀ q ∈ w.2.2.2.2.1, q.1.length ≤ 6 ∧ (∀ c ∈ q.1, c < 128) ∧ ∀ c ∈ q.2, c < 128) ∧ (∀ c ∈ w.2.2.2.2.2, c < 128) ∧ w.2.2.2.2.2.length ≤ 1000
def wOv (w : wn) : Prop := w.2.2.2.2.1.length ≤ 3 ∧ (∀ q ∈ w.2.2.2.2.1, q.2.length ≤ 20) ∧ w.2.2.2.2.2.length ≤ 20
def wI (od : Nat) (W : List wn) (ov : Bool) : Prop := (∀ i, i < W.length → wNx od (W.take i) (W.getD i wn0)) ∧ (ov = false → ∀ i, i < W.length → wOv (W.getD i wn0))
theorem wI.app {od : Nat} {W : List wn} {ov ov1 : Bool} {w : wn} (I : wI od W ov) (n : wNx od W w) (ho : ov1 = false → ov = false ∧ wOv w) : wI od (W ++ [w]) ov1 := by
  refine ⟨fun i hi => ?_, fun e i hi => ?_⟩
  · rw [List.length_append] at hi
    by_cases q : i < W.length
    · rw [List.take_append_of_le_length (by omega), getD_wn_l q]
      exact I.1 i q
    · have e9 : i = W.length := by simp at hi; omega
      subst e9
      have eW := getD_wn_r (W := W) (W2 := []) (w := w)
      rw [List.append_nil] at eW
      rw [List.take_left', eW]
      · exact n
      · rfl
  · rw [List.length_append] at hi
    by_cases q : i < W.length
    · rw [getD_wn_l q]
      exact I.2 (ho e).1 i q
    · have e9 : i = W.length := by simp at hi; omega
      subst e9
      have eW := getD_wn_r (W := W) (W2 := []) (w := w)
      rw [List.append_nil] at eW
      rw [eW]
      exact (ho e).2
def pS (xs : List Nat) (od : Nat) (f : Option Nat → Nat → List Int32 → Nat → List wn → Bool → pR) (G : Nat → Nat → Prop) : Prop := ∀ par dep lab p W ov, p < xs.length → G p dep → wI od W ov → wP od W par dep → lab.length ≤ 18 + dep → wLb W par lab → ∀ q W1 ov1, f par dep lab p W ov = .inr (q, W1, ov1) → wI od W1 ov1 ∧ (∃ w W2, W1 = W ++ w :: W2 ∧ w.2.2.1 = dep ∧ w.2.1 = par ∧ w.2.2.2.1 = lab ∧ ∀ v ∈ W2, ∃ j, v.2.1 = some j ∧ W.length ≤ j) ∧ ∀ i, W.length ≤ i → i < W1.length → dep ≤ (W1.getD i wn0).2.2.1
def pSc (xs : List Nat) (od : Nat) (k : Nat) (f : Nat → Nat → List Int32 → Nat → List wn → Bool → pR) (G : Nat → Nat → Prop) : Prop := ∀ j dep lab p W ov, p ≤ xs.length → (∀ p, G p dep) → wI od W ov → wP od W (some j) dep → lab.length + 1 ≤ 18 + dep → wCnt W j = k → (W.getD j wn0).2.2.2.1 = lab → ∀ q W1 ov1, f j dep lab p W ov = .inr (q, W1, ov1) → wI od W1 ov1 ∧ (∃ W2, W1 = W ++ W2 ∧ ∀ v ∈ W2, ∃ j2, v.2.1 = some j2 ∧ (j2 = j ∨ W.length ≤ j2)) ∧ ∀ i, W.length ≤ i → i < W1.length → dep ≤ (W1.getD i wn0).2.2.1
theorem wS_one {od : Nat} {W : List wn} {ov ov1 : Bool} {kd : Nat} {par : Option Nat} {dep : Nat} {lab : List Int32} {att : List (List Nat × List Nat)} {v : List Nat} (I : wI od W ov) (hk : 1 ≤ kd ∧ kd < 4) (hP : wP od W par dep) (hl : lab.length ≤ 18 + dep) (hd : dep ≤ 6) (hd5 : kd = 1 → dep ≤ 5) (hB : wLb W par lab) (ha : ∀ q ∈ att, q.1.length ≤ 6 ∧ (∀ c ∈ q.1, c < 128) ∧ ∀ c ∈ q.2, c < 128) (hv : ∀ c ∈ v, c < 128) (hvl : v.length ≤ 1000) (ho : ov1 = false → ov = false ∧ att.length ≤ 3 ∧ (∀ q ∈ att, q.2.length ≤ 20) ∧ v.length ≤ 20) : wI od (W ++ [(kd, par, dep, lab, att, v)]) ov1 ∧ (∃ w W2, W ++ [(kd, par, dep, lab, att, v)] = W ++ w :: W2 ∧ w.2.2.1 = dep ∧ w.2.1 = par ∧ w.2.2.2.1 = lab ∧ ∀ v ∈ W2, ∃ j, v.2.1 = some j ∧ W.length ≤ j) ∧ ∀ i, W.length ≤ i → i < (W ++ [(kd, par, dep, lab, att, v)]).length → dep ≤ ((W ++ [(kd, par, dep, lab, att, v)]).getD i wn0).2.2.1 := by
  refine ⟨I.app ⟨hk, hP, ⟨hl, hd, hd5, hB⟩, ha, hv, hvl⟩ (fun e => ⟨(ho e).1, (ho e).2.1, (ho e).2.2.1, (ho e).2.2.2⟩), ⟨_, [], rfl, rfl, rfl, rfl, fun v hv => by cases hv⟩, fun i h1 h2 => ?_⟩
  have e9 : i = W.length := by simp at h2; omega
  subst e9
  have eW := getD_wn_r (W := W) (W2 := []) (w := (kd, par, dep, lab, att, v))
  rw [List.append_nil] at eW
  rw [eW]
  exact Nat.le_refl _
section PQ4
variable {xs : List Nat} {od : Nat}
theorem p_text_S (hcx : ∀ c ∈ xs, c < 128) (hxl : xs.length ≤ 1000) {par : Option Nat} {dep : Nat} {lab : List Int32} {p : Nat} {W : List wn} {ov : Bool} (hpx : p < xs.length) (I : wI od W ov) (hP : wP od W par dep) (hl : lab.length ≤ 18 + dep) (hd : dep ≤ 6) (hB : wLb W par lab) {q : Nat} {W1 : List wn} {ov1 : Bool} (e : p_text xs par dep lab p W ov = .inr (q, W1, ov1)) : wI od W1 ov1 ∧ (∃ w W2, W1 = W ++ w :: W2 ∧ w.2.2.1 = dep ∧ w.2.1 = par ∧ w.2.2.2.1 = lab ∧ ∀ v ∈ W2, ∃ j, v.2.1 = some j ∧ W.length ≤ j) ∧ ∀ i, W.length ≤ i → i < W1.length → dep ≤ (W1.getD i wn0).2.2.1 := by
  unfold p_text at e
  cases ev : p_val xs 60 200 p [] with
  | inl e9 => rw [ev] at e; cases e
  | inr x =>
    obtain ⟨q2, v⟩ := x
    rw [ev] at e
    cases e
    refine wS_one I (by decide) hP hl hd (fun w => absurd w (by decide)) hB (fun q hq => by cases hq) (p_val_ch hcx _ _ _ (fun c hc => by cases hc) ev) (by have := p_val_le _ _ _ (Nat.le_of_lt hpx) ev; simp only [List.length_nil] at this; omega) (fun e => ?_)
    rw [Bool.or_eq_false_iff] at e
    have := of_decide_eq_false e.2
    exact ⟨e.1, by simp, fun q hq => (by cases hq), by omega⟩
theorem p_com_S (hcx : ∀ c ∈ xs, c < 128) (hxl : xs.length ≤ 1000) {par : Option Nat} {dep : Nat} {lab : List Int32} {p : Nat} {W : List wn} {ov : Bool} (I : wI od W ov) (hP : wP od W par dep) (hl : lab.length ≤ 18 + dep) (hd : dep ≤ 6) (hB : wLb W par lab) {q : Nat} {W1 : List wn} {ov1 : Bool} (e : p_com xs par dep lab p W ov = .inr (q, W1, ov1)) : wI od W1 ov1 ∧ (∃ w W2, W1 = W ++ w :: W2 ∧ w.2.2.1 = dep ∧ w.2.1 = par ∧ w.2.2.2.1 = lab ∧ ∀ v ∈ W2, ∃ j, v.2.1 = some j ∧ W.length ≤ j) ∧ ∀ i, W.length ≤ i → i < W1.length → dep ≤ (W1.getD i wn0).2.2.1 := by
  unfold p_com at e
  split at e
  · cases e
  split at e
  · cases e
  split at e
  · cases e
  split at e
  · cases e
  split at e
  · cases e
  cases e
  refine wS_one I (by decide) hP hl hd (fun w => absurd w (by decide)) hB (fun q hq => by cases hq) (fun c hc => hcx c (List.mem_of_mem_drop (List.mem_of_mem_take hc))) (by rw [List.length_take, List.length_drop]; omega) (fun e => ?_)
  rw [Bool.or_eq_false_iff] at e
  have := of_decide_eq_false e.2
  exact ⟨e.1, by simp, fun q hq => (by cases hq), by rw [List.length_take]; omega⟩
theorem p_piece_S (hcx : ∀ c ∈ xs, c < 128) (hxl : xs.length ≤ 1000) {PE : Option Nat → Nat → List Int32 → Nat → List wn → Bool → pR} {N : Nat} (hE : pS xs od PE (fun p dep => xs.getD p 0 = 60 ∧ a_small (xs.getD (p + 1) 0) = true ∧ dep ≤ 5 ∧ 6 ≤ N + dep)) : pS xs od (p_piece PE xs) (fun _ dep => 1 ≤ dep ∧ dep ≤ 6 ∧ 6 ≤ N + dep) := by
  intro par dep lab p W ov hp hG I hP hl hB q W1 ov1 e
  unfold p_piece at e
  by_cases g0 : xs.getD p 0 = 60
  · rw [if_neg (fun w => w g0)] at e
    by_cases g1 : xs.getD (p + 1) 0 = 33
    · rw [if_pos g1] at e; exact p_com_S hcx hxl I hP hl hG.2.1 hB e
    · rw [if_neg g1] at e
      cases g2 : a_small (xs.getD (p + 1) 0) with
      | false => rw [if_pos g2] at e; cases e
      | true =>
        rw [if_neg (by rw [g2]; decide)] at e
        by_cases g3 : 5 < dep
        · rw [if_pos g3] at e; cases e
        · rw [if_neg g3] at e
          exact hE par dep lab p W ov hp ⟨g0, g2, by omega, hG.2.2⟩ I hP hl hB q W1 ov1 e
  · rw [if_pos g0] at e; exact p_text_S hcx hxl hp I hP hl hG.2.1 hB e
theorem wP.ext {W W2 : List wn} {j dep : Nat} (hP : wP od W (some j) dep) (h : ∀ i, W.length ≤ i → i < (W ++ W2).length → dep ≤ ((W ++ W2).getD i wn0).2.2.1) : wP od (W ++ W2) (some j) dep := by
  refine ⟨fun w => (by cases w), fun j' w => ?_⟩
  cases w
  obtain ⟨a1, a2, a3, a4⟩ := hP.2 j rfl
  rw [getD_wn_l a1]
  refine ⟨by rw [List.length_append]; omega, a2, a3, fun k h1 h2 => ?_⟩
  by_cases q : k < W.length
  · rw [getD_wn_l q]; exact a4 k h1 q
  · have := h k (by omega) h2
    omega
theorem p_cont_S {PP : Option Nat → Nat → List Int32 → Nat → List wn → Bool → pR} {G : Nat → Nat → Prop} (hO : pOK xs PP G) (hE : pS xs od PP G) : ∀ (f k : Nat), pSc xs od k (p_cont PP xs f k) G := by
  intro f
  induction f with
  | zero => intro k j dep lab p W ov hp hG I hP hl hk eL q W1 ov1 e; cases e
  | succ f ih =>
    intro k j dep lab p W ov hp hG I hP hl hk eL q W1 ov1 e
    unfold p_cont at e
    by_cases a0 : p = xs.length
    · rw [if_pos a0] at e; cases e
    rw [if_neg a0] at e
    by_cases a1 : xs.getD p 0 = 60 ∧ xs.getD (p + 1) 0 = 47
    · rw [if_pos a1] at e
      cases e
      exact ⟨I, ⟨[], by simp, fun v hv => by cases hv⟩, fun i h1 h2 => by omega⟩
    · rw [if_neg a1] at e
      have O := hO (some j) dep (lab ++ [2 * nI k + 1]) p W ov (by omega) (hG p)
      have L := hE (some j) dep (lab ++ [2 * nI k + 1]) p W ov (by omega) (hG p) I hP (by rw [List.length_append]; exact hl) (fun j' w => by cases w; rw [eL, hk])
      cases e2 : PP (some j) dep (lab ++ [2 * nI k + 1]) p W ov with
      | inl e9 => rw [e2] at e; cases e
      | inr x =>
        obtain ⟨q2, W2, ov2⟩ := x
        rw [e2] at e
        obtain ⟨I2, ⟨w9, W3, e3, _, ep9, _, pa3⟩, d3⟩ := L q2 W2 ov2 e2
        have hjW := (hP.2 j rfl).1
        have P2 : wP od W2 (some j) dep := by rw [e3]; rw [e3] at d3; exact hP.ext d3
        have cnt : wCnt W2 j = k + 1 := by
          rw [e3]
          unfold wCnt at hk ⊢
          rw [List.filter_append, List.length_append, hk, List.filter_cons_of_pos (by rw [ep9]; simp)]
          have : W3.filter (fun w => decide (w.2.1 = some j)) = [] := by
            rw [List.filter_eq_nil_iff]
            intro v hv w
            obtain ⟨j3, o1, o2⟩ := pa3 v hv
            rw [o1] at w
            have : j3 = j := by simpa using w
            omega
          rw [this]; rfl
        have eL2 : (W2.getD j wn0).2.2.2.1 = lab := by rw [e3, getD_wn_l hjW]; exact eL
        obtain ⟨I4, ⟨W5, e5, pa5⟩, d5⟩ := ih (k + 1) j dep lab q2 W2 ov2 (O.2 _ _ _ e2).2.1 hG I2 P2 hl cnt eL2 q W1 ov1 e
        have hW2 : W.length ≤ W2.length := by rw [e3, List.length_append]; omega
        refine ⟨I4, ⟨w9 :: W3 ++ W5, by rw [e5, e3, List.append_assoc], fun v hv => ?_⟩, fun i h1 h2 => ?_⟩
        · rcases List.mem_append.mp hv with w | w
          · rcases List.mem_cons.mp w with w | w
            · rw [w]; exact ⟨j, ep9, Or.inl rfl⟩
            · obtain ⟨j3, o1, o2⟩ := pa3 v w
              exact ⟨j3, o1, Or.inr o2⟩
          · obtain ⟨j3, o1, o2⟩ := pa5 v w
            exact ⟨j3, o1, o2.imp id (fun o => by omega)⟩
        by_cases w : i < W2.length
        · rw [e5, getD_wn_l w]; exact d3 i h1 w
        · exact d5 i (by omega) h2
theorem p_att_ch (hcx : ∀ c ∈ xs, c < 128) {p : Nat} {as : List (List Nat × List Nat)} {q : Nat} {nv : List Nat × List Nat} (e : p_att xs p as = .inr (q, nv)) : nv.1.length ≤ 6 ∧ (∀ c ∈ nv.1, c < 128) ∧ ∀ c ∈ nv.2, c < 128 := by
  unfold p_att at e
  split at e
  · cases e
  split at e
  · cases e
  split at e
  · cases e
  cases ev : p_val xs 34 200 (p + a_let xs p + 2) [] with
  | inl e9 => rw [ev] at e; cases e
  | inr x =>
    obtain ⟨q2, v⟩ := x
    rw [ev] at e
    simp only [] at e
    split at e
    · cases e
      refine ⟨by rw [List.length_take]; have := (a_let_small (xs := xs) (p := p)).1; omega, fun c hc => hcx c (List.mem_of_mem_drop (List.mem_of_mem_take hc)), p_val_ch hcx _ _ _ (fun c hc => by cases hc) ev⟩
    · cases e
theorem p_atts_S (hcx : ∀ c ∈ xs, c < 128) : ∀ (f p : Nat) (att : List (List Nat × List Nat)) (ov : Bool), (∀ q ∈ att, q.1.length ≤ 6 ∧ (∀ c ∈ q.1, c < 128) ∧ ∀ c ∈ q.2, c < 128) → (ov = false → ∀ q ∈ att, q.2.length ≤ 20) → ∀ q att1 ov1, p_atts xs f p att ov = .inr (q, att1, ov1) → (∀ q ∈ att1, q.1.length ≤ 6 ∧ (∀ c ∈ q.1, c < 128) ∧ ∀ c ∈ q.2, c < 128) ∧ (ov1 = false → ov = false ∧ ∀ q ∈ att1, q.2.length ≤ 20) := by
  intro f
  induction f with
  | zero => intro p att ov h1 h2 q att1 ov1 e; cases e
  | succ f ih =>
    intro p att ov h1 h2 q att1 ov1 e
    unfold p_atts at e
    by_cases a : xs.getD p 0 = 32
    · rw [if_pos a] at e
      cases e2 : p_att xs (p + 1) att with
      | inl e9 => rw [e2] at e; cases e
      | inr x =>
        obtain ⟨q2, nv⟩ := x
        rw [e2] at e
        have c2 := p_att_ch hcx e2
        have := ih q2 (att ++ [nv]) (ov || decide (20 < nv.2.length)) (fun g hg => by
          rcases List.mem_append.mp hg with w | w
          · exact h1 g w
          · have : g = nv := by simpa using w
            rw [this]; exact c2) (fun eo g hg => by
          rw [Bool.or_eq_false_iff] at eo
          rcases List.mem_append.mp hg with w | w
          · exact h2 eo.1 g w
          · have : g = nv := by simpa using w
            have := of_decide_eq_false eo.2
            subst g
            omega) q att1 ov1 e
        refine ⟨this.1, fun eo => ⟨?_, (this.2 eo).2⟩⟩
        have := (this.2 eo).1
        rw [Bool.or_eq_false_iff] at this
        exact this.1
    · rw [if_neg a] at e
      cases e
      exact ⟨h1, fun eo => ⟨eo, h2 eo⟩⟩
theorem p_elem_S (hcx : ∀ c ∈ xs, c < 128) (hxl : xs.length ≤ 1000) {PC : Nat → Nat → List Int32 → Nat → List wn → Bool → pR} {N : Nat} (hC : pSc xs od 0 PC (fun _ dep => 1 ≤ dep ∧ dep ≤ 6 ∧ 6 ≤ N + dep)) : pS xs od (p_elem PC xs) (fun p dep => xs.getD p 0 = 60 ∧ a_small (xs.getD (p + 1) 0) = true ∧ dep ≤ 5 ∧ 6 ≤ N + 1 + dep) := by
  intro par dep lab p W ov hp ⟨g0, g1, g2, g3⟩ I hP hl hB q W1 ov1 e
  have l1 : p + 1 < xs.length := getD_pos rfl (a_small_ne g1)
  have hla := a_let_le (xs := xs) (p := p + 1) (by omega)
  have hn6 := (a_let_small (xs := xs) (p := p + 1)).1
  unfold p_elem at e
  have L := p_atts_le (xs := xs) 130 (p + 1 + a_let xs (p + 1)) [] ov (by omega)
  cases ea : p_atts xs 130 (p + 1 + a_let xs (p + 1)) [] ov with
  | inl e9 => rw [ea] at e; cases e
  | inr x =>
    obtain ⟨qa, att, ova⟩ := x
    have Lq := L.2 _ _ _ ea
    have A := p_atts_S hcx 130 (p + 1 + a_let xs (p + 1)) [] ov (fun q hq => by cases hq) (fun _ q hq => by cases hq) qa att ova ea
    rw [ea] at e
    simp only [] at e
    generalize hnm : (xs.drop (p + 1)).take (a_let xs (p + 1)) = nm at *
    have hcn : ∀ c ∈ nm, c < 128 := fun c hc => hcx c (List.mem_of_mem_drop (List.mem_of_mem_take (by rw [hnm]; exact hc)))
    have hnl : nm.length ≤ 6 := by rw [← hnm, List.length_take]; omega
    have one := wS_one (ov1 := ova || decide (3 < att.length)) (kd := 1) (att := att) (v := nm) I (by decide) hP hl (by omega) (fun _ => g2) hB A.1 hcn (by omega) (fun eo => by
      rw [Bool.or_eq_false_iff] at eo
      have := of_decide_eq_false eo.2
      exact ⟨(A.2 eo.1).1, by omega, (A.2 eo.1).2, by omega⟩)
    split at e
    · split at e
      · cases e; exact one
      · cases e
    · split at e
      · cases e
      · have a2 : xs.getD qa 0 = 62 := by rename_i w; simpa using w
        have := getD_pos a2 (by decide)
        have eW := getD_wn_r (W := W) (W2 := []) (w := (1, par, dep, lab, att, nm))
        rw [List.append_nil] at eW
        have P2 : wP od (W ++ [(1, par, dep, lab, att, nm)]) (some W.length) (dep + 1) := by
          refine ⟨fun w => (by cases w), fun j w => ?_⟩
          cases w
          rw [eW]
          exact ⟨by rw [List.length_append]; simp, rfl, rfl, fun k h1 h2 => by simp at h2; omega⟩
        have S := hC W.length (dep + 1) lab (qa + 1) (W ++ [(1, par, dep, lab, att, nm)]) (ova || decide (3 < att.length)) (by omega) (fun p => ⟨by omega, by omega, by omega⟩) one.1 P2 (by omega) (by
          unfold wCnt
          rw [List.filter_append, List.length_append]
          have e1 : W.filter (fun w => decide (w.2.1 = some W.length)) = [] := by
            rw [List.filter_eq_nil_iff]
            intro v hv w
            obtain ⟨i, hi, ei⟩ := List.mem_iff_getElem.mp hv
            have wp := (I.1 i hi).2.1
            rw [List.getD_eq_getElem?_getD, List.getElem?_eq_getElem hi, Option.getD_some, ei] at wp
            have := (wp.2 W.length (by simpa using w)).1
            rw [List.length_take] at this
            omega
          have e2 : [((1, par, dep, lab, att, nm) : wn)].filter (fun w => decide (w.2.1 = some W.length)) = [] := by
            rw [List.filter_eq_nil_iff]
            intro v hv w
            have : v = (1, par, dep, lab, att, nm) := by simpa using hv
            rw [this] at w
            have w2 : par = some W.length := by simpa using w
            have := (hP.2 W.length w2).1
            omega
          rw [e1, e2]; rfl) (by rw [eW])
        cases e2 : PC W.length (dep + 1) lab (qa + 1) (W ++ [(1, par, dep, lab, att, nm)]) (ova || decide (3 < att.length)) with
        | inl e9 => rw [e2] at e; cases e
        | inr x2 =>
          obtain ⟨q2, W2, ov3⟩ := x2
          rw [e2] at e
          simp only [] at e
          cases e3 : p_end xs nm (q2 + 2) with
          | inl e9 => rw [e3] at e; cases e
          | inr q3 =>
            rw [e3] at e
            obtain ⟨S1, ⟨W5, S2, pa5⟩, S3⟩ := S q2 W2 ov3 e2
            cases e
            refine ⟨S1, ⟨(1, par, dep, lab, att, nm), W5, by rw [S2, List.append_assoc]; rfl, rfl, rfl, rfl, fun v hv => by
              obtain ⟨j3, o1, o2⟩ := pa5 v hv
              refine ⟨j3, o1, ?_⟩
              rcases o2 with o | o
              · omega
              · rw [List.length_append] at o; omega⟩, fun i h1 h2 => ?_⟩
            by_cases w : i = W.length
            · rw [w, S2, getD_wn_r]; exact Nat.le_refl _
            · have := S3 i (by rw [List.length_append]; simp; omega) h2
              omega
theorem p_F_S (hcx : ∀ c ∈ xs, c < 128) (hxl : xs.length ≤ 1000) : ∀ N, pS xs od (p_F xs N) (fun p dep => xs.getD p 0 = 60 ∧ a_small (xs.getD (p + 1) 0) = true ∧ dep ≤ 5 ∧ 6 ≤ N + dep) := by
  intro N
  induction N with
  | zero => intro par dep lab p W ov hp hG; exact absurd hG.2.2 (by omega)
  | succ N ih => exact p_elem_S hcx hxl (p_cont_S (p_piece_le (p_F_le N)) (p_piece_S hcx hxl ih) 130 0)
theorem p_doc_S (hcx : ∀ c ∈ xs, c < 128) (hxl : xs.length ≤ 1000) {W : List wn} {ov : Bool} (e : p_doc xs = .inr (W, ov)) : wI 0 W ov ∧ (∃ w W2, W = w :: W2 ∧ w.2.2.1 = 0 ∧ w.2.1 = none ∧ w.2.2.2.1 = [1]) ∧ W.length ≤ xs.length := by
  unfold p_doc at e
  split at e
  · cases e
  rename_i g0
  split at e
  · cases e
  rename_i g1
  have g0' : xs.getD 0 0 = 60 := by simpa using g0
  have g1' : a_small (xs.getD 1 0) = true := by simpa using g1
  have l0 := getD_pos g0' (by decide)
  have LF := p_F_le (xs := xs) 8 none 0 [1] 0 [] false l0 ⟨g0', g1', by omega, by omega⟩
  have SF := p_F_S hcx hxl (od := 0) 8 none 0 [1] 0 [] false l0 ⟨g0', g1', by omega, by omega⟩ ⟨fun i hi => absurd hi (Nat.not_lt_zero _), fun _ i hi => absurd hi (Nat.not_lt_zero _)⟩ ⟨fun _ => ⟨rfl, rfl⟩, fun j w => by cases w⟩ (by decide) (fun j w => by cases w)
  cases e2 : p_F xs 8 none 0 [1] 0 [] false with
  | inl e9 => rw [e2] at e; cases e
  | inr x =>
    obtain ⟨q, W1, ov1⟩ := x
    rw [e2] at e
    simp only [p_fin] at e
    split at e
    · cases e
      obtain ⟨S1, ⟨w, W2, S2, S31, S32, S33, _⟩, _⟩ := SF q W ov e2
      obtain ⟨_, b2, W3, b3, b4⟩ := LF.2 _ _ _ e2
      refine ⟨S1, ⟨w, W2, S2, S31, S32, S33⟩, ?_⟩
      rw [b3, List.length_append]; simp; omega
    · cases e
theorem p_one_S (hcx : ∀ c ∈ xs, c < 128) (hxl : xs.length ≤ 1000) {lab : List Int32} (hod : 1 ≤ od ∧ od ≤ 6) (hll : lab.length ≤ 18 + od) {W : List wn} {ov : Bool} (e : p_one xs od lab = .inr (W, ov)) : wI od W ov ∧ (∃ w W2, W = w :: W2 ∧ w.2.2.1 = od ∧ w.2.1 = none ∧ w.2.2.2.1 = lab) ∧ W.length ≤ xs.length ∧ ∀ i, i < W.length → od ≤ (W.getD i wn0).2.2.1 := by
  unfold p_one at e
  split at e
  · cases e
  rename_i g0
  have LF := p_piece_le (p_F_le (xs := xs) 8) none od lab 0 [] false (by omega) ⟨hod.1, hod.2, by omega⟩
  have SF := p_piece_S hcx hxl (p_F_S hcx hxl (od := od) 8) none od lab 0 [] false (by omega) ⟨hod.1, hod.2, by omega⟩ ⟨fun i hi => absurd hi (Nat.not_lt_zero _), fun _ i hi => absurd hi (Nat.not_lt_zero _)⟩ ⟨fun _ => ⟨rfl, rfl⟩, fun j w => by cases w⟩ hll (fun j w => by cases w)
  cases e2 : p_piece (p_F xs 8) xs none od lab 0 [] false with
  | inl e9 => rw [e2] at e; cases e
  | inr x =>
    obtain ⟨q, W1, ov1⟩ := x
    rw [e2] at e
    simp only [p_fin] at e
    split at e
    · cases e
      obtain ⟨S1, ⟨w, W2, S2, S31, S32, S33, _⟩, S4⟩ := SF q W ov e2
      obtain ⟨_, b2, W3, b3, b4⟩ := LF.2 _ _ _ e2
      refine ⟨S1, ⟨w, W2, S2, S31, S32, S33⟩, ?_, fun i hi => S4 i (Nat.zero_le _) hi⟩
      rw [b3, List.length_append]; simp; omega
    · cases e
end PQ4
