-- nodes that have been read go into the tree
def cp_N2 (N : Nat → Nat) (mk : Nat) (as : List Nat) (i : Nat) : Nat := if i < mk then N i else as.getD (i - mk) 0
def cp_B2 (B : Nat → Nat) (s : Nat) (as : List Nat) (i : Nat) : Nat := if i < s then B i else if i < s + as.length then as.getD (i - s) 0 else B (i - as.length)
/-- a node that has no number yet -/
def cp_e0 (J : Nat → Int32 × Option Nat × Int32 × Nat × Nat × Int32) (V : Nat → Int32 × Nat × Nat) (x : Nat) : va_E := .inr (8, [.int (J x).1, va_rf (J x).2.1, .int (J x).2.2.1, .ref (J x).2.2.2.1, .ref (J x).2.2.2.2.1, .int (-1), .int (V x).1, .ref (V x).2.1, .ref (V x).2.2])
section PQ1
variable {dA : Nat → ClassId} {h h1 : hm_T} {z : hz_T} {a aM aO aE mk n m : Nat} {N B E : Nat → Nat} {J : Nat → Int32 × Option Nat × Int32 × Nat × Nat × Int32} {V : Nat → Int32 × Nat × Nat} {rd d : Nat} {as : List Nat} {sp : Nat}
theorem cp_N2_X {k : Nat} (hk : k ≤ as.length) {b : Nat} (w : cp_X a aM aO aE (mk + k) (cp_N2 N mk as) b) : cp_X a aM aO aE (mk + as.length) (cp_N2 N mk as) b := by
  rcases w with w | w | w | w | ⟨i, hi, w⟩
  · exact Or.inl w
  · exact Or.inr (Or.inl w)
  · exact Or.inr (Or.inr (Or.inl w))
  · exact Or.inr (Or.inr (Or.inr (Or.inl w)))
  · exact Or.inr (Or.inr (Or.inr (Or.inr ⟨i, by omega, w⟩)))
/-- one node gets its number -/
theorem cp_Tk {k : Nat} (T : cp_T dA h a aM aO aE (mk + k) n m (cp_N2 N mk as) B E J V) (hk : k < as.length) (hm : mk + as.length ≤ 200) {f g : Nat → Option Nat} (hM : h aM = some (.inl (dA 5, 200, .inr (.inr (.inr (.inr f)))))) (hf : ∀ i, i < mk + k → f i = some (cp_N2 N mk as i)) (hO : h aO = some (.inl (dA 5, 40, .inr (.inr (.inr (.inr g)))))) (c0 : h (as.getD k 0) = some (cp_e0 J V (as.getD k 0))) (hJ : (J (as.getD k 0)).2.2.2.2.2 = nI (mk + k)) (hinj : ∀ i, i < mk + k → cp_N2 N mk as i ≠ as.getD k 0) {j : Nat} (hj : n ≤ j ∨ j < n) :
    ∃ B', cp_T dA (hm_u (hm_u (hm_u (hm_u h (as.getD k 0) (cp_e J V (as.getD k 0))) aM (.inl (dA 5, 200, .inr (.inr (.inr (.inr (va_up f (mk + k) (some (as.getD k 0))))))))) a (.inr (1, [.ref aM, .int (nI (mk + (k + 1))), .ref aO, .int (nI n), .ref aE, .int (nI m)]))) aO (.inl (dA 5, 40, .inr (.inr (.inr (.inr (va_up g j (some (as.getD k 0))))))))) a aM aO aE (mk + (k + 1)) n m (cp_N2 N mk as) B' E J V := by
  obtain ⟨t1, ⟨fM, t2, t2'⟩, ⟨fO, t3, t3'⟩, ⟨fE, t4, t4'⟩, t5, t6, t7, x1, x2, x3, y1, y2, y3⟩ := T
  have fO_g : fO = g := by
    rw [t3] at hO
    simpa using hO
  subst fO_g
  have eN : cp_N2 N mk as (mk + k) = as.getD k 0 := by unfold cp_N2; rw [if_neg (by omega), Nat.add_sub_cancel_left]
  generalize hx : as.getD k 0 = x at *
  have xa : x ≠ a := hm_ne c0 t1 rfl
  have xM : x ≠ aM := hm_ne c0 t2 rfl
  have xO : x ≠ aO := hm_ne c0 t3 rfl
  have xE : x ≠ aE := hm_ne c0 t4 rfl
  have aaM : a ≠ aM := hm_ne t1 t2 rfl
  have aaO : a ≠ aO := hm_ne t1 t3 rfl
  have aaE : a ≠ aE := hm_ne t1 t4 rfl
  have nN : ∀ i, i < mk + k → cp_N2 N mk as i ≠ aM ∧ cp_N2 N mk as i ≠ aO ∧ cp_N2 N mk as i ≠ a := fun i hi => ⟨hm_ne (t5 i hi) t2 rfl, hm_ne (t5 i hi) t3 rfl, hm_ne (t5 i hi) t1 rfl⟩
  have ex : (∃ i, i < mk + (k + 1) ∧ cp_N2 N mk as i = x) := ⟨mk + k, by omega, eN⟩
  refine ⟨fun i => if i = j then x else B i, ?_, ⟨va_up f (mk + k) (some x), ?_, fun i hi => ?_⟩, ⟨va_up fO j (some x), hm_s, fun i hi => ?_⟩, ⟨fE, ?_, t4'⟩, fun i hi => ?_, fun i hi => ?_, fun i hi => ?_, x1, x2, x3, by omega, y2, y3⟩
  · rw [hm_n aaO, hm_s]
  · rw [hm_n x1, hm_n (Ne.symm aaM), hm_s]
  · unfold va_up
    by_cases q : i = mk + k
    · rw [if_pos q, q, eN]
    · rw [if_neg q]
      exact hf i (by omega)
  · unfold va_up
    by_cases q : i = j
    · simp only [q, if_true]
    · simp only [q, if_false]; exact t3' i hi
  · rw [hm_n (Ne.symm x3), hm_n (Ne.symm aaE), hm_n (Ne.symm x2), hm_n (Ne.symm xE)]; exact t4
  · by_cases q : i = mk + k
    · rw [q, eN, hm_n xO, hm_n xa, hm_n xM, hm_s]
    · have := nN i (by omega)
      rw [hm_n this.2.1, hm_n this.2.2, hm_n this.1, hm_n (hinj i (by omega))]
      exact t5 i (by omega)
  · by_cases q : i = j
    · simp only [q, if_true]; exact ex
    · simp only [q, if_false]
      obtain ⟨i2, o1, o2⟩ := t6 i hi
      exact ⟨i2, by omega, o2⟩
  · obtain ⟨i2, o1, o2⟩ := t7 i hi
    exact ⟨i2, by omega, o2⟩
/-- the second loop -/
theorem cp_putL (hm : mk + as.length ≤ 200) (hn : n + as.length ≤ 40) (hs : sp ≤ n) (hJ : ∀ k, k < as.length → (J (as.getD k 0)).2.2.2.2.2 = nI (mk + k)) (hinj : ∀ k, k < as.length → ∀ i, i < mk + k → cp_N2 N mk as i ≠ as.getD k 0) (hNr : ∀ k, k < n → ∃ i, i < mk ∧ N i = B k) (hd1 : as ≠ [] → d ≠ aM ∧ d ≠ aO) {K : hm_T → hz_T → Prop} : ∀ (r fu k : Nat) (h : hm_T) (B' : Nat → Nat), k + r = as.length → r < fu → cp_T dA h a aM aO aE (mk + k) n m (cp_N2 N mk as) B' E J V → ja dA h rd d as → (∃ f : Nat → Option Nat, h aO = some (.inl (dA 5, 40, .inr (.inr (.inr (.inr f))))) ∧ (∀ i, i < sp → f i = some (B i)) ∧ (∀ i, i < k → f (sp + i) = some (as.getD i 0)) ∧ ∀ i, sp ≤ i → i < n → f (i + as.length) = some (B i)) → (∀ j, k ≤ j → j < as.length → h (as.getD j 0) = some (cp_e0 J V (as.getD j 0))) → (∀ h1, cp_T dA h1 a aM aO aE (mk + as.length) (n + as.length) m (cp_N2 N mk as) (cp_B2 B sp as) E J (cp_sp V (cp_B2 B sp as) (n + as.length)) → cp_F h h1 a aM aO aE (mk + as.length) (cp_N2 N mk as) → K h1 z) → w_Tree_put_44 dA a K fu (some rd) (nI sp) (nI as.length) (nI k) h z := by
  intro r
  induction r with
  | zero =>
    intro fu k h B' hk hr T j ⟨f, hO, f1, f2, f3⟩ hc hK
    obtain ⟨fu, rfl⟩ : ∃ f, fu = f + 1 := ⟨fu - 1, by omega⟩
    obtain rfl : k = as.length := by omega
    unfold w_Tree_put_44
    refine if_yes (nI_le (Nat.le_refl _) (by omega)) (cg_I_of T.1 rfl (cg_p_of T.1 (show 3 < 6 by decide) ?_))
    rw [nI_add]
    have T1 := cp_Tn (n2 := n + as.length) (B2 := cp_B2 B sp as) T hO hn (fun i hi => by
      unfold cp_B2
      by_cases q : i < sp
      · rw [if_pos q]
        obtain ⟨i2, o1, o2⟩ := hNr i (by omega)
        exact ⟨f1 i q, i2, by omega, by unfold cp_N2; rw [if_pos o1]; exact o2⟩
      · rw [if_neg q]
        by_cases q2 : i < sp + as.length
        · rw [if_pos q2]
          refine ⟨?_, mk + (i - sp), by omega, ?_⟩
          · have := f2 (i - sp) (by omega)
            rwa [show sp + (i - sp) = i by omega] at this
          · unfold cp_N2; rw [if_neg (by omega), Nat.add_sub_cancel_left]
        · rw [if_neg q2]
          obtain ⟨i2, o1, o2⟩ := hNr (i - as.length) (by omega)
          refine ⟨?_, i2, by omega, by unfold cp_N2; rw [if_pos o1]; exact o2⟩
          have := f3 (i - as.length) (by omega) (by omega)
          rwa [show i - as.length + as.length = i by omega] at this)
    exact cg_c_of T1.1 (cp_setPlaces T1 (fun h1 T2 F2 => hK h1 T2 ((cp_F.u (Or.inl rfl)).trans F2)))
  | succ r ih =>
    intro fu k h B' hk hr T j ⟨g, hO, f1, f2, f3⟩ hc hK
    obtain ⟨fu, rfl⟩ : ∃ f, fu = f + 1 := ⟨fu - 1, by omega⟩
    have hkl : k < as.length := by omega
    have c0 := hc k (Nat.le_refl _) hkl
    obtain ⟨f, hM, hf⟩ := T.2.1
    obtain ⟨mo, j1, j2⟩ := id j
    have hne : as ≠ [] := fun w => by rw [w] at hkl; exact Nat.not_lt_zero _ hkl
    have hb := T.2.2.2.2.2.2.2.2.2.2
    have hx3 := T.2.2.2.2.2.2.2
    rcases j2 with j2 | ⟨_, nn, ff, c3, w1, w2, w3⟩
    · exact absurd j2.1 hne
    have eN : cp_N2 N mk as (mk + k) = as.getD k 0 := by unfold cp_N2; rw [if_neg (by omega), Nat.add_sub_cancel_left]
    obtain ⟨B2, T2⟩ := cp_Tk (j := sp + k) T hkl hm hM hf hO c0 (hJ k hkl) (hinj k hkl) (by omega)
    have xa : as.getD k 0 ≠ a := hm_ne c0 T.1 rfl
    have xM : as.getD k 0 ≠ aM := hm_ne c0 hM rfl
    have xO : as.getD k 0 ≠ aO := hm_ne c0 hO rfl
    have aaM : a ≠ aM := hm_ne T.1 hM rfl
    have aaO : a ≠ aO := hm_ne T.1 hO rfl
    unfold w_Tree_put_44
    refine if_no (nI_ge hkl (by omega)) (cg_d_of ⟨d, as.length, mo, nn, k, as.getD k 0, ff, j1, c3, rfl, hkl, w1, by omega, w3 k hkl, cg_c_of c0 (cg_I_of T.1 rfl (cg_p_of c0 (show 5 < 9 by decide) ?_))⟩)
    have e1 : cp_e J V (as.getD k 0) = .inr (8, [.int (J (as.getD k 0)).1, va_rf (J (as.getD k 0)).2.1, .int (J (as.getD k 0)).2.2.1, .ref (J (as.getD k 0)).2.2.2.1, .ref (J (as.getD k 0)).2.2.2.2.1, .int (nI (mk + k)), .int (V (as.getD k 0)).1, .ref (V (as.getD k 0)).2.1, .ref (V (as.getD k 0)).2.2]) := by unfold cp_e; rw [hJ k hkl]
    rw [e1] at T2
    have M1 : ∀ (b : Nat) (e : va_E), b ≠ as.getD k 0 → (hm_u h (as.getD k 0) e) b = h b := fun b e w => hm_n w
    refine cg_R_ref (x := aM) (by rw [M1 _ _ (Ne.symm xa)]; exact T.1) rfl (cg_I_of (by rw [M1 _ _ (Ne.symm xa)]; exact T.1) rfl (cg_d_of (cg_c_of hm_s (cg_sr_of (by rw [M1 _ _ (Ne.symm xM)]; exact hM) (by omega) (by omega) ?_))))
    refine cg_I_of (by rw [hm_n aaM, M1 _ _ (Ne.symm xa)]; exact T.1) rfl (cg_p_of (fs := [.ref aM, .int (nI (mk + k)), .ref aO, .int (nI n), .ref aE, .int (nI m)]) (by rw [hm_n aaM, M1 _ _ (Ne.symm xa)]; exact T.1) (show 1 < 6 by decide) ?_)
    rw [nI_1]
    refine cg_R_ref (x := aO) hm_s rfl (cg_d_of (cg_c_of (by rw [hm_n xa, hm_n xM, hm_s]) ?_))
    rw [nI_add, nI_1]
    refine cg_sr_of (by rw [hm_n (Ne.symm aaO), hm_n (Ne.symm hx3.1), M1 _ _ (Ne.symm xO)]; exact hO) (by omega) (by omega) ?_
    have F1 : cp_F h (hm_u (hm_u (hm_u (hm_u h (as.getD k 0) (.inr (8, [.int (J (as.getD k 0)).1, va_rf (J (as.getD k 0)).2.1, .int (J (as.getD k 0)).2.2.1, .ref (J (as.getD k 0)).2.2.2.1, .ref (J (as.getD k 0)).2.2.2.2.1, .int (nI (mk + k)), .int (V (as.getD k 0)).1, .ref (V (as.getD k 0)).2.1, .ref (V (as.getD k 0)).2.2]))) aM (.inl (dA 5, 200, .inr (.inr (.inr (.inr (va_up f (mk + k) (some (as.getD k 0))))))))) a (.inr (1, [.ref aM, .int (nI (mk + (k + 1))), .ref aO, .int (nI n), .ref aE, .int (nI m)]))) aO (.inl (dA 5, 40, .inr (.inr (.inr (.inr (va_up g (sp + k) (some (as.getD k 0))))))))) a aM aO aE (mk + as.length) (cp_N2 N mk as) := ((((cp_F.u (Or.inr (Or.inr (Or.inr (Or.inr ⟨mk + k, by omega, eN⟩))))).trans (cp_F.u (Or.inr (Or.inl rfl)))).trans (cp_F.u (Or.inl rfl))).trans (cp_F.u (Or.inr (Or.inr (Or.inl rfl)))))
    have xd : as.getD k 0 ≠ d := hm_ne c0 c3 rfl
    have xrd : as.getD k 0 ≠ rd := hm_ne c0 j1 rfl
    refine ih fu (k + 1) _ B2 (by omega) (by omega) T2 ?_ ⟨_, hm_s, fun i hi => ?_, fun i hi => ?_, fun i h1 h2 => ?_⟩ (fun jj h1 h2 => ?_) (fun h1 T1 F2 => hK h1 T1 (F1.trans F2))
    · refine ⟨mo, ?_, Or.inr ⟨hne, nn, ff, ?_, w1, w2, w3⟩⟩
      · rw [hm_n (hm_ne j1 hO rfl), hm_n (hm_ne j1 T.1 rfl), hm_n (hm_ne j1 hM rfl), M1 _ _ (Ne.symm xrd)]; exact j1
      · rw [hm_n (hd1 hne).2, hm_n (hm_ne c3 T.1 rfl), hm_n (hd1 hne).1, M1 _ _ (Ne.symm xd)]; exact c3
    · unfold va_up; rw [if_neg (by omega)]; exact f1 i hi
    · unfold va_up
      by_cases q : i = k
      · rw [if_pos (by omega), q]
      · rw [if_neg (by omega)]; exact f2 i (by omega)
    · unfold va_up; rw [if_neg (by omega)]; exact f3 i h1 h2
    · have c9 := hc jj (by omega) h2
      have nk : as.getD jj 0 ≠ as.getD k 0 := fun w => by
        have := hinj jj h2 (mk + k) (by omega)
        rw [eN] at this
        exact this w.symm
      rw [hm_n (hm_ne c9 hO rfl), hm_n (hm_ne c9 T.1 rfl), hm_n (hm_ne c9 hM rfl), M1 _ _ nk]; exact c9
/-- the first loop: room is made -/
theorem cp_putM (hm : mk + as.length ≤ 200) (hn : n + as.length ≤ 40) (hs : sp ≤ n) (hJ : ∀ k, k < as.length → (J (as.getD k 0)).2.2.2.2.2 = nI (mk + k)) (hinj : ∀ k, k < as.length → ∀ i, i < mk + k → cp_N2 N mk as i ≠ as.getD k 0) (hNr : ∀ k, k < n → ∃ i, i < mk ∧ N i = B k) (hd1 : as ≠ [] → d ≠ aM ∧ d ≠ aO) {K : hm_T → hz_T → Prop} : ∀ (r fu : Nat) (h : hm_T) (B' : Nat → Nat), sp + r ≤ n → r < fu → cp_T dA h a aM aO aE mk n m N B' E J V → ja dA h rd d as → (∃ f : Nat → Option Nat, h aO = some (.inl (dA 5, 40, .inr (.inr (.inr (.inr f))))) ∧ (∀ i, i < sp + r → f i = some (B i)) ∧ ∀ i, sp + r ≤ i → i < n → f (i + as.length) = some (B i)) → (∀ j, j < as.length → h (as.getD j 0) = some (cp_e0 J V (as.getD j 0))) → (∀ h1, cp_T dA h1 a aM aO aE (mk + as.length) (n + as.length) m (cp_N2 N mk as) (cp_B2 B sp as) E J (cp_sp V (cp_B2 B sp as) (n + as.length)) → cp_F h h1 a aM aO aE (mk + as.length) (cp_N2 N mk as) → K h1 z) → w_Tree_put_13 dA a K fu (some rd) (nI sp) (nI as.length) (nI (sp + r) + -1) h z := by
  intro r
  induction r with
  | zero =>
    intro fu h B' hr hf T j ⟨f, hO, f1, f2⟩ hc hK
    obtain ⟨fu, rfl⟩ : ∃ f, fu = f + 1 := ⟨fu - 1, by omega⟩
    unfold w_Tree_put_13
    have hlt : nI (sp + 0) + -1 < nI sp := by
      rw [Int32.lt_iff_toInt_lt]
      cases sp with
      | zero => decide
      | succ q =>
        rw [show q + 1 + 0 = q + 1 by omega, ← nI_1, Int32.add_assoc, show (1 : Int32) + -1 = 0 from rfl, Int32.add_zero, nI_1, nI_toInt (by omega), nI_toInt (by omega)]
        omega
    refine if_yes hlt ?_
    have T' : cp_T dA h a aM aO aE (mk + 0) n m (cp_N2 N mk as) B' E J V := by
      obtain ⟨t1, ⟨fM, t2, t2'⟩, t3, t4, t5, t6, t7, rr⟩ := T
      have eN : ∀ i, i < mk → cp_N2 N mk as i = N i := fun i hi => if_pos hi
      exact ⟨t1, ⟨fM, t2, fun i hi => by rw [eN i hi]; exact t2' i hi⟩, t3, t4, fun i hi => by rw [eN i hi]; exact t5 i hi, fun i hi => by obtain ⟨k, o1, o2⟩ := t6 i hi; exact ⟨k, o1, by rw [eN k o1]; exact o2⟩, fun i hi => by obtain ⟨k, o1, o2⟩ := t7 i hi; exact ⟨k, o1, by rw [eN k o1]; exact o2⟩, rr⟩
    exact cp_putL hm hn hs hJ hinj hNr hd1 as.length mF 0 h B' (by omega) (by unfold mF; omega) T' j ⟨f, hO, fun i hi => f1 i (by omega), fun i hi => absurd hi (Nat.not_lt_zero _), fun i h1 h2 => f2 i (by omega) h2⟩ (fun j _ hj => hc j hj) hK
  | succ r ih =>
    intro fu h B' hr hf T j ⟨f, hO, f1, f2⟩ hc hK
    obtain ⟨fu, rfl⟩ : ∃ f, fu = f + 1 := ⟨fu - 1, by omega⟩
    have e1 : nI (sp + (r + 1)) + -1 = nI (sp + r) := by rw [show sp + (r + 1) = (sp + r) + 1 by omega, ← nI_1, Int32.add_assoc, show (1 : Int32) + -1 = 0 from rfl, Int32.add_zero]
    have hx3 := T.2.2.2.2.2.2.2
    obtain ⟨i2, o1, o2⟩ := hNr (sp + r) (by omega)
    have hnb : h (B (sp + r)) = some (cp_e J V (B (sp + r))) := by rw [← o2]; exact T.2.2.2.2.1 i2 o1
    unfold w_Tree_put_13
    rw [e1]
    refine if_no (nI_nlt (by omega) (by omega)) (cg_R_ref T.1 rfl (cg_R_ref T.1 rfl (cg_d_of (cg_ar_of hO (by omega) (by omega) (f1 (sp + r) (by omega)) (cg_d_of (cg_d_of (cg_c_of hnb ?_)))))))
    rw [nI_add]
    refine cg_sr_of hO (by omega) (by omega) ?_
    have Oa : a ≠ aO := hm_ne T.1 hO rfl
    refine ih fu _ (fun i => if i = sp + r + as.length then B (sp + r) else B' i) (by omega) (by omega) (cp_To T hO ⟨i2, o1, o2⟩ (fun i hi hne => by simp only [hne, if_false]) (fun hj => by simp only [if_true])) ?_ ⟨_, hm_s, fun i hi => ?_, fun i h1 h2 => ?_⟩ (fun jj hj => ?_) (fun h1 T1 F2 => hK h1 T1 ((cp_F.u (Or.inr (Or.inr (Or.inl rfl)))).trans F2))
    · obtain ⟨mo, j1, j2⟩ := id j
      refine j.mo (Y := fun b => b = aO) (hm_mo.u rfl) (hm_ne j1 hO rfl) (fun e => (hd1 e).2)
    · by_cases q : as.length = 0
      · unfold va_up
        by_cases q2 : i = sp + r + as.length
        · omega
        · rw [if_neg q2]; exact f1 i (by omega)
      · unfold va_up
        rw [if_neg (by omega)]; exact f1 i (by omega)
    · unfold va_up
      by_cases q : i = sp + r
      · rw [if_pos (by omega), q]
      · rw [if_neg (by omega)]; exact f2 i (by omega) h2
    · rw [hm_n (hm_ne (hc jj hj) hO rfl)]; exact hc jj hj
theorem cp_putT (T : cp_T dA h a aM aO aE mk n m N B E J V) (j : ja dA h rd d as) (hm : mk + as.length ≤ 200) (hn : n + as.length ≤ 40) (hs : sp ≤ n) (hJ : ∀ k, k < as.length → (J (as.getD k 0)).2.2.2.2.2 = nI (mk + k)) (hinj : ∀ k, k < as.length → ∀ i, i < mk + k → cp_N2 N mk as i ≠ as.getD k 0) (hd1 : as ≠ [] → d ≠ aM ∧ d ≠ aO) (hc : ∀ j, j < as.length → h (as.getD j 0) = some (cp_e0 J V (as.getD j 0))) {K : hm_T → hz_T → Prop} (hK : ∀ h1, cp_T dA h1 a aM aO aE (mk + as.length) (n + as.length) m (cp_N2 N mk as) (cp_B2 B sp as) E J (cp_sp V (cp_B2 B sp as) (n + as.length)) → cp_F h h1 a aM aO aE (mk + as.length) (cp_N2 N mk as) → K h1 z) : w_Tree_put dA a (some rd) (nI sp) K h z := by
  obtain ⟨mo, j1, j2⟩ := id j
  obtain ⟨f, hO, hf⟩ := id T.2.2.1
  unfold w_Tree_put
  refine cg_d_of ⟨d, as.length, mo, j1, cg_I_of T.1 rfl ?_⟩
  have e1 : nI n - 1 = nI (sp + (n - sp)) + -1 := by rw [show sp + (n - sp) = n by omega, Int32.sub_eq_add_neg]
  rw [e1]
  exact cp_putM hm hn hs hJ hinj T.2.2.2.2.2.1 hd1 (n - sp) mF h B (by omega) (by unfold mF; omega) T j ⟨f, hO, fun i hi => hf i (by omega), fun i h1 h2 => by omega⟩ hc hK
end PQ1
