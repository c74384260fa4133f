-- writing out: the class's calls
section PO3
variable {dA : Nat → ClassId} {h : hm_T} {z : hz_T} {q : Nat} {w : Int32} {y mk n m : Nat} {D D2 : Nat → nd} {xs ws : List Nat} {rs : List Int32} {ch : Int32} {bu bv sc sv fo a aM aO aE : Nat} {N B E : Nat → Nat} {J : Nat → Int32 × Option Nat × Int32 × Nat × Nat × Int32} {V : Nat → Int32 × Nat × Nat}
theorem cp_writeL (C : cPCS dA y h z mk n D m D2 xs rs ch bu bv sc sv fo a aM aO aE N B E J V ws) (ok : nd_ok mk n D) (hq : h q = none) {K : hm_T → hz_T → Prop} : ∀ (r fu k : Nat) (o : Option Nat) (s : Int32 × Int32), k + r = n → r < fu → (∀ j, o = some j → j < n) → K (os h q w (o_all w s (a_wr n D r k o))) z → w_Scribe_write_4 dA q K fu (some a) (o.map B) (nI k) (os h q w s) z := by
  have C0 := C
  obtain ⟨S, jB, jS, jF, T, P, d, d2, r9⟩ := C
  have hn := ok.1
  intro r
  induction r with
  | zero =>
    intro fu k o s hk hr ho hK
    obtain ⟨fu, rfl⟩ : ∃ f, fu = f + 1 := ⟨fu - 1, by omega⟩
    unfold w_Scribe_write_4
    exact cg_d_of (cg_I_of (cp_Tos T hq).1 rfl (if_yes (nI_le (by omega) (by omega)) (cg_c_of hm_s (cp_close (qo := none) C0 ok hq (fun j hj => by cases hj) ho hK))))
  | succ r ih =>
    intro fu k o s hk hr ho hK
    obtain ⟨fu, rfl⟩ : ∃ f, fu = f + 1 := ⟨fu - 1, by omega⟩
    have hkn : k < n := by omega
    have nk := cp_nB T hkn
    have o9 := ok.2 k hkn
    have ek := (d k hkn).1
    have ep := (d k hkn).2.1
    obtain ⟨u, hu⟩ := (d k hkn).2.2.2.2.2.2.2
    obtain ⟨f, hO, hf⟩ := T.2.2.1
    have hpa : ∀ j, (D k).2.2.1 = some j → j < n := fun j hj => by have := o9.2.2.1 j hj; omega
    have hK1 : K (os h q w (o_all w (o_all w (o_all w s (a_close D (D k).2.2.1 50 o)) (a_pc n D k)) (a_wr n D r (k + 1) (a_next n D k)))) z := by
      rw [← o_all_app, ← o_all_app]
      exact hK
    have hnx : ∀ j, a_next n D k = some j → j < n := fun j hj => by
      unfold a_next at hj
      by_cases c9 : (D k).2.1 = 1 ∧ k + 1 < a_end n D k
      · rw [if_pos c9] at hj; cases hj; exact hkn
      · rw [if_neg c9] at hj; exact hpa j hj
    unfold w_Scribe_write_4
    refine cg_d_of (cg_I_of (cp_Tos T hq).1 rfl (if_no (nI_ge (by omega) (by omega)) (cg_d_of (cg_R_ref (cp_Tos T hq).1 rfl (cg_d_of (cg_ar_of (os_n hq hO) (by omega) (by omega) (hf k hkn) (cg_d_of (cg_R_of (os_n hq nk) rfl (cg_c_of hm_s ?_)))))))))
    rw [ep]
    refine cp_close C0 ok hq hpa ho (cg_d_of (cg_R_of (os_n hq nk) rfl (cg_d_of (cg_I_of (os_n hq nk) rfl ?_))))
    rw [ek, ep]
    by_cases k1 : (D k).2.1 = 1
    · have hdep : ∀ j, j < n → (J (B j)).2.2.1 = nI (mp_dep (fun k => (D k).2.2.1) j) ∧ mp_dep (fun k => (D k).2.2.1) j < 2 ^ 31 := fun j hj => ⟨(d j hj).2.2.1, by
        have := mp_dp_le (pa := fun k => (D k).2.2.1) (fun k hk p e => (ok.2 k hk).2.2.1 p e) (j + 1) j hj
        unfold mp_dep
        omega⟩
      have hes := mp_end_spec (pa := fun k => (D k).2.2.1) hkn
      refine if_yes (by rw [k1]; rfl) (cg_d_of (cg_c_of (cp_Tos T hq).1 (cp_endOf (cp_Tos T hq) P hdep hkn ?_)))
      rw [nI_1]
      have epc : a_pc n D k = a_tag (D k) ++ (if k + 1 < a_end n D k then [62] else [47, 62]) := if_pos k1
      rw [epc] at hK1
      by_cases c9 : k + 1 < a_end n D k
      · refine if_no (nI_ge c9 (by have := hes.2.1; omega)) ?_
        unfold w_Scribe_write_62 w_Scribe_write_83 w_Scribe_write_133
        rw [if_pos c9] at hK1
        refine cg_c_of hm_s (cp_putStart (hc := true) C0 ok hq hkn (if_no (by decide) ?_))
        rw [nI_1]
        rw [show a_next n D k = some k from if_pos ⟨k1, c9⟩] at hK1
        exact ih fu (k + 1) (some k) _ (by omega) (by omega) (fun j hj => by cases hj; exact hkn) hK1
      · refine if_yes (nI_le (show mp_end (fun k => (D k).2.2.1) n k ≤ k + 1 by unfold a_end at c9; omega) (by omega)) ?_
        unfold w_Scribe_write_62 w_Scribe_write_83 w_Scribe_write_133
        rw [if_neg c9] at hK1
        refine cg_c_of hm_s (cp_putStart (hc := false) C0 ok hq hkn (if_yes rfl ?_))
        rw [nI_1]
        rw [show a_next n D k = (D k).2.2.1 from if_neg (fun w => c9 w.2)] at hK1
        exact ih fu (k + 1) _ _ (by omega) (by omega) hpa hK1
    · rw [show a_next n D k = (D k).2.2.1 from if_neg (fun w => k1 w.1)] at hK1
      refine if_no (fun e => k1 ((nI_eq (b := 1) (by omega) (by decide)).mp e)) (cg_d_of (cg_I_of (os_n hq nk) rfl ?_))
      rw [ek]
      by_cases k2 : (D k).2.1 = 2
      · rw [show a_pc n D k = a_val 62 a_gt (D k).2.2.2.2.2 from (if_neg k1).trans (if_pos k2)] at hK1
        refine if_yes (by rw [k2]; rfl) (cg_d_of (cg_R_ref (os_n hq nk) rfl (fun a9 u9 z9 => cg_c_of hm_s (cp_putValue (th := 62) hu (by omega) o9.2.2.2.2.2.2.2.1 z9 (by decide) (by decide) (by decide) ?_))))
        unfold w_Scribe_write_133
        rw [nI_1]
        exact ih fu (k + 1) _ _ (by omega) (by omega) hpa hK1
      · rw [show a_pc n D k = [60, 33, 45, 45] ++ ((D k).2.2.2.2.2 ++ [45, 45, 62]) from (if_neg k1).trans (if_neg k2), o_all_app, o_all_app] at hK1
        refine if_no (fun e => k2 ((nI_eq (b := 2) (by omega) (by decide)).mp e)) (fun a9 u9 z9 => cg_c_of hm_s (cp_putAll z9 (by decide) (by decide) (cg_d_of (cg_R_ref (os_n hq nk) rfl (cg_c_of hm_s (cp_putAll hu (by omega) o9.2.2.2.2.2.2.2.1 (fun a8 u8 z8 => cg_c_of hm_s (cp_putAll z8 (by decide) (by decide) ?_))))))))
        unfold w_Scribe_write_133
        rw [nI_1]
        exact ih fu (k + 1) _ _ (by omega) (by omega) hpa hK1
/-- behind a step that made a scribe -/
theorem cPIC.os (I : cPIC dA y h z mk n D m D2 xs rs ch) (hq : h q = none) {s : Int32 × Int32} : cPIC dA y (os h q w s) z mk n D m D2 xs rs ch := by
  obtain ⟨bu, bv, sc, sv, fo, a, aM, aO, aE, N, B, E, J, V, ws, S, jB, jS, ⟨g, jF, jG⟩, T, P, d, d2, r⟩ := I
  exact ⟨bu, bv, sc, sv, fo, a, aM, aO, aE, N, B, E, J, V, ws, os_n hq S, jB.mo (os_mo hq) id id, jS.mo (os_mo hq) id id, ⟨g, os_n hq jF, jG⟩, cp_Tos T hq, P, d.mo (os_mo hq) hz_mo.refl (fun _ q => q.elim) (fun _ _ _ q => q) (fun _ _ => rfl), d2.mo (os_mo hq) hz_mo.refl (fun _ q => q.elim) (fun _ _ _ q => q) (fun _ _ => rfl), r⟩
theorem pc_length (I : cPIC dA y h z mk n D m D2 xs rs ch) (ok : aOK mk n D m D2 xs rs) {c s : Nat} (hc : 1 ≤ c) (hs : 3 ≤ s) {K : Int32 → hm_T → hz_T → Prop} (hK : ∀ h1, cPIC dA y h1 z mk n D m D2 xs rs ch → K (o_all (-1) (0, 0) (a_wr n D n 0 none)).1 h1 z) : w_Store_length dA y c s K h z := by
  have I0 := I
  obtain ⟨bu, bv, sc, sv, fo, a, aM, aO, aE, N, B, E, J, V, ws, C⟩ := I
  have C0 : cPCS dA y h z mk n D m D2 xs rs ch bu bv sc sv fo a aM aO aE N B E J V ws := C
  have hn := ok.1.1
  unfold w_Store_length
  refine cg_new_of hc hs (fun q hq => cg_c_of hm_s ?_)
  unfold w_Scribe_init
  refine cg_p_of hm_s (show _ < 3 by decide) (cg_p_of hm_s (show _ < 3 by decide) (cg_p_of hm_s (show _ < 3 by decide) ?_))
  rw [hm_uu, hm_uu, hm_uu]
  refine cg_R_ref (os_n (w := -1) (s := (0, 0)) hq C.1) rfl (cg_c_of hm_s ?_)
  unfold w_Scribe_write
  exact cp_writeL C0 ok.1 hq n mF 0 none (0, 0) (by omega) (by unfold mF; omega) (fun j hj => by cases hj) (cg_I_of hm_s rfl (hK _ (I0.os hq)))
theorem pc_written (I : cPIC dA y h z mk n D m D2 xs rs ch) (ok : aOK mk n D m D2 xs rs) {c s : Nat} (hc : 1 ≤ c) (hs : 3 ≤ s) {x : Int32} {K : Int32 → hm_T → hz_T → Prop} (hK : ∀ h1, cPIC dA y h1 z mk n D m D2 xs rs ch → K (o_all x (0, 0) (a_wr n D n 0 none)).2 h1 z) : w_Store_written dA y x c s K h z := by
  have I0 := I
  obtain ⟨bu, bv, sc, sv, fo, a, aM, aO, aE, N, B, E, J, V, ws, C⟩ := I
  have C0 : cPCS dA y h z mk n D m D2 xs rs ch bu bv sc sv fo a aM aO aE N B E J V ws := C
  have hn := ok.1.1
  unfold w_Store_written
  refine cg_new_of hc hs (fun q hq => cg_c_of hm_s ?_)
  unfold w_Scribe_init
  refine cg_p_of hm_s (show _ < 3 by decide) (cg_p_of hm_s (show _ < 3 by decide) (cg_p_of hm_s (show _ < 3 by decide) ?_))
  rw [hm_uu, hm_uu, hm_uu]
  refine cg_R_ref (os_n (w := x) (s := (0, 0)) hq C.1) rfl (cg_c_of hm_s ?_)
  unfold w_Scribe_write
  exact cp_writeL C0 ok.1 hq n mF 0 none (0, 0) (by omega) (by unfold mF; omega) (fun j hj => by cases hj) (cg_I_of hm_s rfl (hK _ (I0.os hq)))
end PO3
