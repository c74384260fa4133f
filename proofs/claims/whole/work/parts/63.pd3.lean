-- remove: the class's call
section PD3
variable {dA : Nat → ClassId} {h h1 : hm_T} {z z1 : hz_T} {y mk n m : Nat} {D D2 : Nat → nd} {xs ws ws2 : List Nat} {rs : List Int32} {ch : Int32} {bu bv sc sv fo a aM aO aE : Nat} {N B E : Nat → Nat} {J : Nat → Int32 × Option Nat × Int32 × Nat × Nat × Int32} {V : Nat → Int32 × Nat × Nat}
theorem cPCS.set (C : cPCS dA y h z mk n D m D2 xs rs ch bu bv sc sv fo a aM aO aE N B E J V ws) (ok : nd_ok mk n D) {k t u : Nat} {xs2 : List Nat} (hk : k < n) (hz : z t = some (u, xs2)) {e : va_E} (he : e = .inr (8, [.int (J (B k)).1, va_rf (J (B k)).2.1, .int (J (B k)).2.2.1, .ref (J (B k)).2.2.2.1, .ref (J (B k)).2.2.2.2.1, .int (J (B k)).2.2.2.2.2, .int (V (B k)).1, .ref t, .ref (V (B k)).2.2])) : cPCS dA y (hm_u h (B k) e) z mk n (nd_set D k xs2) m D2 xs rs ch bu bv sc sv fo a aM aO aE N B E J (cp_up V (B k) ((V (B k)).1, t, (V (B k)).2.2)) ws := by
  obtain ⟨S, jB, jS, ⟨g, jF, jG⟩, T, P, d, d2, r⟩ := C
  obtain ⟨mb, nb, fb, b1, b2, br⟩ := id jB
  obtain ⟨ms, ns, fs, s1, s2, sr⟩ := id jS
  have hx := T.2.2.2.2.2.1 k hk
  have nk := cp_nB T hk
  have M : hm_mo h (hm_u h (B k) e) (fun b => b = B k) := hm_mo.u rfl
  have hY : ∀ b, b = B k → cp_Q y bu bv sc sv fo a aM aO aE mk N b := fun b q => Or.inl (Or.inr (Or.inr (Or.inr (Or.inr (by rw [q]; exact hx)))))
  have T2 := cp_Tw (v := ((V (B k)).1, t, (V (B k)).2.2)) T hx he
  have hB := cp_Bi P ok.1
  refine ⟨M _ _ S (hm_ne S nk rfl), jB.mo M (hm_ne b1 nk rfl) (hm_ne b2 nk rfl), jS.mo M (hm_ne s1 nk rfl) (hm_ne s2 nk rfl), ⟨g, M _ _ jF (hm_ne jF nk rfl), jG⟩, T2, ⟨P.1, fun i hi => ?_, fun i hi q => ?_⟩, ?_, ?_, r⟩
  · unfold cp_up
    by_cases q : B i = B k
    · rw [if_pos q, ← q]; exact P.2.1 i hi
    · rw [if_neg q]; exact P.2.1 i hi
  · unfold cp_up
    rw [if_neg (Ne.symm (q k hk))]
    exact P.2.2 i hi q
  · intro i hi
    have d' := d.mo (tf2 := fun x => (V x).2.1) M hz_mo.refl hY (fun _ _ _ q => q) (fun _ _ => rfl) i hi
    rw [nd_set_pa]
    by_cases q : i = k
    · subst q
      rw [nd_set_s]
      obtain ⟨a1, a2, a3, a4, a5, a6, a7, a8⟩ := d'
      refine ⟨a1, a2, a3, a4, a5, a6, a7, u, ?_⟩
      show z (cp_up V (B i) _ (B i)).2.1 = _
      unfold cp_up
      rw [if_pos rfl]
      exact hz
    · rw [nd_set_n q]
      obtain ⟨a1, a2, a3, a4, a5, a6, a7, u2, a8⟩ := d'
      refine ⟨a1, a2, a3, a4, a5, a6, a7, u2, ?_⟩
      show z (cp_up V (B k) _ (B i)).2.1 = _
      unfold cp_up
      rw [if_neg (fun e => q (hB i k hi hk e))]
      exact a8
  · refine d2.mo M hz_mo.refl hY (fun _ _ _ q => q) (fun i hi => ?_)
    show (cp_up V (B k) _ (E i)).2.2 = _
    unfold cp_up
    by_cases q : E i = B k
    · rw [if_pos q, q]
    · rw [if_neg q]
theorem cp_rm137 (C : cPCS dA y h z mk n D m D2 xs rs ch bu bv sc sv fo a aM aO aE N B E J V ws) (ok : nd_ok mk n D) {k t c s : Nat} (hk : k < n) (hkt : k ≤ t) (ht : t ≤ n) (cl : nd_cl n D k t) {K : Int32 → hm_T → hz_T → Prop} (hK : ∀ h1, cPIC dA y h1 z mk (n - (t - k)) (nd_cut D k t) m D2 xs rs (ch + 1) → K (nI (t - k)) h1 z) : w_Store_remove_137 dA y K (some (B k)) (nI t) c s h z := by
  have C0 := C
  obtain ⟨S, jB, jS, jF, T, P, d, d2, r⟩ := C
  have nk := cp_nB T hk
  unfold w_Store_remove_137
  refine cg_d_of (cg_I_of nk rfl (cg_R_ref S rfl (cg_d_of (cg_I_of nk rfl (cg_d_of (cg_c_of T.1 ?_))))))
  rw [P.2.1 k hk]
  refine cp_takeOut T hkt ht (fun h1 T1 F1 => ?_)
  rw [nI_sub hkt]
  exact pc_inc (pc_cut C0 ok hkt ht cl T1 F1) (fun h2 I2 => hK h2 I2)
theorem pc_remove (I : cPIC dA y h z mk n D m D2 xs rs ch) (ok : aOK mk n D m D2 xs rs) {c s : Nat} (hc : 5 ≤ c) (hs : 572 ≤ s) {x : Int32} {K : Int32 → hm_T → hz_T → Prop} (k1 : a_at n D x = none → K (-1000) h z) (k2 : ∀ k, a_at n D x = some k → (D k).2.2.1 = none → K (-2000) h z)
    (k3 : ∀ k i, a_at n D x = some k → (D k).2.2.1 ≠ none → a_join n D k = some i → 20 < (D i).2.2.2.2.2.length + (D (a_end n D k)).2.2.2.2.2.length → K (-2000) h z)
    (k4 : ∀ k i h1 z1, a_at n D x = some k → (D k).2.2.1 ≠ none → a_join n D k = some i → (D i).2.2.2.2.2.length + (D (a_end n D k)).2.2.2.2.2.length ≤ 20 → cPIC dA y h1 z1 mk (n - (a_end n D k + 1 - k)) (nd_cut (nd_set D i ((D i).2.2.2.2.2 ++ (D (a_end n D k)).2.2.2.2.2)) k (a_end n D k + 1)) m D2 xs rs (ch + 1) → K (nI (a_end n D k + 1 - k)) h1 z1)
    (k5 : ∀ k h1, a_at n D x = some k → (D k).2.2.1 ≠ none → a_join n D k = none → cPIC dA y h1 z mk (n - (a_end n D k - k)) (nd_cut D k (a_end n D k)) m D2 xs rs (ch + 1) → K (nI (a_end n D k - k)) h1 z) : w_Store_remove dA y x c s K h z := by
  obtain ⟨bu, bv, sc, sv, fo, a, aM, aO, aE, N, B, E, J, V, ws, C0⟩ := I
  have C : cPCS dA y h z mk n D m D2 xs rs ch bu bv sc sv fo a aM aO aE N B E J V ws := C0
  obtain ⟨S, jB, jS, jF, T, P, d, d2, r⟩ := C0
  have hn := ok.1.1
  have pre := ok.2.2.2.2.2.2.2.2.1
  unfold w_Store_remove
  refine cg_R_ref S rfl (cg_d_of (cg_c_of T.1 ?_))
  cases e : a_at n D x with
  | none => exact cp_find_none T P (cp_nn T P d (a_at_none e)) (if_yes rfl (k1 e))
  | some k =>
    obtain ⟨hk, rfl⟩ := a_at_some e
    have o := ok.1.2 k hk
    have nk := cp_nB T hk
    refine cp_find_some T P hk o.1 (cp_nu T P d ok.1 ok.2.2.1 hk) (if_no (by simp) (cg_d_of (cg_R_of nk rfl ?_)))
    have ep := (d k hk).2.1
    cases e2 : (D k).2.2.1 with
    | none => exact if_yes (by rw [ep, e2]; rfl) (k2 k e e2)
    | some p =>
      have hp := o.2.2.1 p e2
      have e3 : (J (B k)).2.1 = some (B p) := by rw [ep, e2]; rfl
      have hes := mp_end_spec (pa := fun k => (D k).2.2.1) hk
      have hpn : (D k).2.2.1 ≠ none := by rw [e2]; simp
      have np := cp_nB T (k := p) (by omega)
      have hdep : ∀ j, j < n → (J (B j)).2.2.1 = nI (mp_dep (fun k => (D k).2.2.1) j) ∧ mp_dep (fun k => (D k).2.2.1) j < 2 ^ 31 := fun j hj => ⟨(d j hj).2.2.1, by
        have := mp_dp_le (pa := fun k => (D k).2.2.1) (fun k hk p e => (ok.1.2 k hk).2.2.1 p e) (j + 1) j hj
        unfold mp_dep
        omega⟩
      have hc9 : ∀ j, j < n → (J (B j)).2.1 = some (B p) → p < j := fun j hj q => by
        have q2 := cp_pa P d ok.1 hj (show p < n by omega)
        rw [q, decide_eq_true rfl] at q2
        exact (ok.1.2 j hj).2.2.1 p (of_decide_eq_true q2.symm)
      refine if_no (by rw [e3]; simp) (cg_R_ref S rfl (cg_d_of (cg_c_of T.1 (cp_endOf T P hdep hk ?_))))
      refine cg_R_ref S rfl (cg_d_of (cg_R_of nk rfl (cg_d_of (cg_I_of nk rfl (cg_d_of (cg_c_of T.1 ?_))))))
      rw [e3, P.2.1 k hk]
      refine cp_childBefore T ⟨_, np, by rw [← P.2.1 p (by omega)]; rfl⟩ (by omega) hc9 (Nat.le_of_lt hk) ?_
      refine cg_R_ref S rfl (cg_d_of (cg_R_of nk rfl (cg_d_of (cg_c_of T.1 ?_))))
      rw [e3]
      refine cp_childFrom T (some (B p)) hes.2.1 ?_
      have eL : mp_lst (fun j => decide ((J (B j)).2.1 = some (B p))) k = a_left D k := by
        unfold a_left
        rw [e2]
        exact mp_lst_congr k (fun j hj => cp_pa P d ok.1 (by omega) (by omega))
      have eR : mp_fst (fun j => decide ((J (B j)).2.1 = some (B p))) (n - a_end n D k) (a_end n D k) = if a_end n D k < n ∧ (D (a_end n D k)).2.2.1 = some p then some (a_end n D k) else none := by
        rw [← a_right ok.1 pre hk e2]
        exact mp_fst_congr _ _ (fun j h1 h2 => cp_pa P d ok.1 (by have := hes.2.1; unfold a_end at h1 h2; omega) (by omega))
      rw [show mp_end (fun k => (D k).2.2.1) n k = a_end n D k from rfl, eL, eR]
      have noj : a_join n D k = none → w_Store_remove_137 dA y K (some (B k)) (nI (a_end n D k)) c s h z := fun q => cp_rm137 C ok.1 hk (Nat.le_of_lt hes.1) hes.2.1 (nd_end_cl ok.1 pre hk) (fun h1 I1 => k5 k h1 e hpn q I1)
      have hL : ∀ i, a_left D k = some i → i < n := fun i hi => by have := (mp_lst_some k hi).1; omega
      cases eL2 : a_left D k with
      | none => exact cp_isText T (o := none) (fun j hj => by cases hj) (if_yes rfl (noj (by unfold a_join; rw [eL2])))
      | some i =>
        have hi := hL i eL2
        refine cp_isText T (o := some i) (fun j hj => by cases hj; exact hi) ?_
        have oi := ok.1.2 i hi
        have ki : (J (B i)).1 = 2 ↔ (D i).2.1 = 2 := by rw [(d i hi).1]; exact nI_eq (b := 2) (by omega) (by decide)
        by_cases q2 : (D i).2.1 = 2
        · rw [cp_tx_1 (ki.mpr q2)]
          refine if_no (by decide) ?_
          by_cases q3 : a_end n D k < n ∧ (D (a_end n D k)).2.2.1 = some p
          · rw [if_pos q3]
            refine cp_isText T (o := some (a_end n D k)) (fun j hj => by cases hj; exact q3.1) ?_
            have oe := ok.1.2 _ q3.1
            have ke : (J (B (a_end n D k))).1 = 2 ↔ (D (a_end n D k)).2.1 = 2 := by rw [(d _ q3.1).1]; exact nI_eq (b := 2) (by omega) (by decide)
            by_cases q4 : (D (a_end n D k)).2.1 = 2
            · rw [cp_tx_1 (ke.mpr q4)]
              have ej : a_join n D k = some i := by unfold a_join; rw [eL2]; simp only []; rw [if_pos ⟨q2, q3.1, by rw [q3.2, e2], q4⟩]
              have ni := cp_nB T hi
              have ne := cp_nB T q3.1
              obtain ⟨u1, z1'⟩ := (d i hi).2.2.2.2.2.2.2
              obtain ⟨u2, z2'⟩ := (d _ q3.1).2.2.2.2.2.2.2
              refine if_no (by decide) (cg_d_of (cg_R_ref ni rfl (cg_d_of ⟨u1, _, z1', cg_d_of (cg_R_ref ne rfl (cg_d_of ⟨u2, _, z2', ?_⟩))⟩)))
              simp only []
              rw [nI_add]
              by_cases q5 : (D i).2.2.2.2.2.length + (D (a_end n D k)).2.2.2.2.2.length ≤ 20
              · refine if_yes (nI_le (b := 20) q5 (by decide)) (cg_d_of (cg_R_ref ni rfl (cg_d_of (cg_R_ref ne rfl (cg_c_of S (cg_rm_of hc hs ?_))))))
                refine cp_joined S jS z1' z2' (by omega) oi.2.2.2.2.2.2.2.1 oe.2.2.2.2.2.2.2.1 (Nat.le_refl _) (Nat.le_refl _) (fun t h1 z1 sv1 ⟨u, hu⟩ jS1 hsv M Mz => ?_)
                have C1 := C.scr jS1 hsv M Mz
                have T1 := C1.2.2.2.2.1
                have ni1 := cp_nB T1 hi
                refine cg_d_of (cg_p_of ni1 (show 7 < 9 by decide) ?_)
                have C2 := C1.set ok.1 hi hu rfl
                have P2 := C2.2.2.2.2.2.1
                have ne2 := cp_nB C2.2.2.2.2.1 q3.1
                refine cg_d_of (cg_I_of ne2 rfl ?_)
                rw [P2.2.1 _ q3.1, nI_1]
                have ok2 := nd_set_ok (k := i) (t := (D i).2.2.2.2.2 ++ (D (a_end n D k)).2.2.2.2.2) ok.1 (by rw [List.length_append]; exact q5) (fun c hc => (List.mem_append.mp hc).elim (oi.2.2.2.2.2.2.2.1 c) (oe.2.2.2.2.2.2.2.1 c))
                have pre2 := nd_set_pre (k := i) (t := (D i).2.2.2.2.2 ++ (D (a_end n D k)).2.2.2.2.2) pre
                have hkd : ∀ j, (nd_set D i ((D i).2.2.2.2.2 ++ (D (a_end n D k)).2.2.2.2.2) j).2.1 = (D j).2.1 := fun j => by
                  unfold nd_set
                  by_cases w : j = i
                  · rw [if_pos w]
                  · rw [if_neg w]
                have cl2 := nd_end_cl1 ok2 pre2 hk (by rw [nd_set_pa]; exact q3.1) (by rw [nd_set_pa, hkd]; show (D (a_end n D k)).2.1 ≠ 1; omega)
                rw [nd_set_pa] at cl2
                exact cp_rm137 (t := a_end n D k + 1) C2 ok2 hk (by have := hes.1; unfold a_end; omega) (by have := q3.1; omega) cl2 (fun h3 I3 => k4 k i h3 z1 e hpn ej q5 I3)
              · exact if_no (nI_ge (a := 20) (by omega) (by omega)) (k3 k i e hpn ej (by omega))
            · rw [cp_tx_0 (fun w => q4 (ke.mp w))]
              refine if_yes rfl (noj ?_)
              unfold a_join
              rw [eL2]
              simp only []
              rw [if_neg (fun w => q4 w.2.2.2)]
          · rw [if_neg q3]
            refine cp_isText T (o := none) (fun j hj => by cases hj) (if_yes rfl (noj ?_))
            unfold a_join
            rw [eL2]
            simp only []
            rw [if_neg (fun w => q3 ⟨w.2.1, by rw [w.2.2.1, e2]⟩)]
        · rw [cp_tx_0 (fun w => q2 (ki.mp w))]
          refine if_yes rfl (noj ?_)
          unfold a_join
          rw [eL2]
          simp only []
          rw [if_neg (fun w => q2 w.1)]
end PD3
