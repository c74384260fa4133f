-- node: both sides
def a_node (n : Nat) (D : Nat → nd) (x y : Int32) : Int32 := match a_at n D x with
  | none => -1000
  | some j => if y = 0 then (match (D j).2.2.1 with | none => -1 | some p => nI (D p).1) else if y = 1 then nI (mp_cn (fun k => decide ((D k).2.2.1 = some j)) n) else if y = 2 then nI (mp_cn (fun k => decide ((D k).2.2.1 = (D j).2.2.1)) j) else if y = 3 then nI (D j).2.2.2.2.1.length else if y = 4 then nI (D j).2.2.2.2.2.length else if y = 5 then nI (D j).2.2.2.1.length else if y = 6 then nI j else -1000
theorem mp_cn_congr {P R : Nat → Bool} : ∀ t : Nat, (∀ k, k < t → P k = R k) → mp_cn P t = mp_cn R t := by
  intro t
  induction t with
  | zero => intro _; rfl
  | succ t ih =>
    intro h
    unfold mp_cn
    rw [h t (by omega), ih (fun k hk => h k (by omega))]
theorem mp_lst_congr {P R : Nat → Bool} : ∀ t : Nat, (∀ k, k < t → P k = R k) → mp_lst P t = mp_lst R t := by
  intro t
  induction t with
  | zero => intro _; rfl
  | succ t ih =>
    intro h
    unfold mp_lst
    rw [h t (by omega), ih (fun k hk => h k (by omega))]
section PN1
variable {dA : Nat → ClassId} {h h1 : hm_T} {z z1 : hz_T} {st : mT} {y mk n m : Nat} {D D2 : Nat → nd} {xs : List Nat} {rs : List Int32} {ch : Int32} {a aM aO aE : Nat} {d : Nat → Nat} {N B E : Nat → Nat} {J : Nat → Int32 × Option Nat × Int32 × Nat × Nat × Int32} {V : Nat → Int32 × Nat × Nat} {Q : Nat → Prop} {tf : Nat → Nat}
theorem cp_Bi (P : cp_P mk n N B J V) (hn : n ≤ 40) : ∀ i j, i < n → j < n → B i = B j → i = j := by
  intro i j hi hj e
  have e1 := P.2.1 i hi
  rw [e, P.2.1 j hj] at e1
  exact ((nI_eq (by omega) (by omega)).mp e1).symm
/-- who has this parent, by places and by addresses -/
theorem cp_pa (P : cp_P mk n N B J V) (dd : cp_doc dA h z Q B J tf n D) (ok : nd_ok mk n D) {k j : Nat} (hk : k < n) (hj : j < n) : decide ((J (B k)).2.1 = some (B j)) = decide ((D k).2.2.1 = some j) := by
  rw [(dd k hk).2.1]
  apply decide_eq_decide.mpr
  cases e : (D k).2.2.1 with
  | none => simp
  | some p =>
    have hp := (ok.2 k hk).2.2.1 p e
    simp only [Option.map_some, Option.some.injEq]
    exact ⟨fun q => cp_Bi P ok.1 p j (by omega) hj q, fun q => by rw [q]⟩
theorem cp_pe (P : cp_P mk n N B J V) (dd : cp_doc dA h z Q B J tf n D) (ok : nd_ok mk n D) {k j : Nat} (hk : k < n) (hj : j < n) : decide ((J (B k)).2.1 = (J (B j)).2.1) = decide ((D k).2.2.1 = (D j).2.2.1) := by
  rw [(dd j hj).2.1]
  cases e : (D j).2.2.1 with
  | none =>
    rw [(dd k hk).2.1]
    apply decide_eq_decide.mpr
    cases (D k).2.2.1 <;> simp
  | some p =>
    have hp := (ok.2 j hj).2.2.1 p e
    exact cp_pa P dd ok hk (by omega)
theorem pc_node (I : cPIC dA y h z mk n D m D2 xs rs ch) (ok : aOK mk n D m D2 xs rs) {x x2 : Int32} {K : Int32 → hm_T → hz_T → Prop} (hK : K (a_node n D x x2) h z) : w_Store_node dA y x x2 K h z := by
  obtain ⟨bu, bv, sc, sv, fo, a, aM, aO, aE, N, B, E, J, V, ws, S, jB, jS, jF, T, P, dd, d2, r⟩ := I
  unfold a_node at hK
  unfold w_Store_node
  cases e : a_at n D x with
  | none =>
    rw [e] at hK
    exact cg_R_ref S rfl (cg_d_of (cg_c_of T.1 (cp_find_none T P (cp_nn T P dd (a_at_none e)) (if_yes rfl hK))))
  | some j =>
    rw [e] at hK
    obtain ⟨hj, rfl⟩ := a_at_some e
    have o := ok.1.2 j hj
    have nj := cp_nB T hj
    have hn := ok.1.1
    refine cg_R_ref S rfl (cg_d_of (cg_c_of T.1 (cp_find_some T P hj o.1 (cp_nu T P dd ok.1 ok.2.2.1 hj) (if_no (by simp) ?_))))
    have ep := (dd j hj).2.1
    by_cases y0 : x2 = 0
    · simp only [y0, if_true] at hK
      refine if_yes y0 (cg_d_of (cg_R_of nj rfl ?_))
      cases e2 : (D j).2.2.1 with
      | none =>
        rw [e2] at hK
        exact if_yes (by rw [ep, e2]; rfl) hK
      | some p =>
        rw [e2] at hK
        have hp := o.2.2.1 p e2
        have e3 : (J (B j)).2.1 = some (B p) := by rw [ep, e2]; rfl
        refine if_no (by rw [e3]; simp) (cg_d_of (cg_R_of nj rfl ?_))
        rw [e3]
        refine cg_d_of (cg_I_of (cp_nB T (by omega)) rfl ?_)
        rw [(dd p (by omega)).2.2.2.1]
        exact hK
    refine if_no y0 ?_
    by_cases y1 : x2 = 1
    · subst y1
      simp only [show ¬ (1 : Int32) = 0 by decide, if_false, if_true] at hK
      refine if_yes rfl (cg_R_ref S rfl (cg_R_ref S rfl (cg_d_of (cg_I_of T.1 rfl (cg_d_of (cg_c_of T.1 (cp_cw T (some (B j)) (Nat.le_refl _) ?_)))))))
      rw [mp_cn_congr n (fun k hk => cp_pa P dd ok.1 hk hj)]
      exact hK
    refine if_no y1 ?_
    by_cases y2 : x2 = 2
    · subst y2
      simp only [show ¬ (2 : Int32) = 0 by decide, show ¬ (2 : Int32) = 1 by decide, if_false, if_true] at hK
      refine if_yes rfl (cg_d_of (cg_R_of nj rfl ?_))
      cases e2 : (D j).2.2.1 with
      | none =>
        have j0 := o.2.2.2.2.2.2.2.2 e2
        subst j0
        exact if_yes (by rw [ep, e2]; rfl) hK
      | some p =>
        have e3 : (J (B j)).2.1 = some (B p) := by rw [ep, e2]; rfl
        refine if_no (by rw [e3]; simp) (cg_R_ref S rfl (cg_d_of (cg_R_of nj rfl (cg_d_of (cg_I_of nj rfl (cg_d_of (cg_c_of T.1 ?_)))))))
        rw [P.2.1 j hj]
        refine cp_cw T _ (by omega) ?_
        rw [mp_cn_congr j (fun k hk => cp_pe P dd ok.1 (by omega) hj)]
        exact hK
    refine if_no y2 ?_
    by_cases y3 : x2 = 3
    · subst y3
      simp only [show ¬ (3 : Int32) = 0 by decide, show ¬ (3 : Int32) = 1 by decide, show ¬ (3 : Int32) = 2 by decide, if_false, if_true] at hK
      obtain ⟨q9, as, ⟨mo, c1, c2⟩, n1, n2, e9, r9⟩ := (dd j hj).2.2.2.2.2.2.1
      rw [← e9] at hK
      exact if_yes rfl (cg_d_of (cg_R_ref nj rfl (cg_d_of ⟨_, _, mo, c1, hK⟩)))
    refine if_no y3 ?_
    by_cases y4 : x2 = 4
    · subst y4
      simp only [show ¬ (4 : Int32) = 0 by decide, show ¬ (4 : Int32) = 1 by decide, show ¬ (4 : Int32) = 2 by decide, show ¬ (4 : Int32) = 3 by decide, if_false, if_true] at hK
      obtain ⟨u, hu⟩ := (dd j hj).2.2.2.2.2.2.2
      exact if_yes rfl (cg_d_of (cg_R_ref nj rfl (cg_d_of ⟨u, _, hu, hK⟩)))
    refine if_no y4 ?_
    by_cases y5 : x2 = 5
    · subst y5
      simp only [show ¬ (5 : Int32) = 0 by decide, show ¬ (5 : Int32) = 1 by decide, show ¬ (5 : Int32) = 2 by decide, show ¬ (5 : Int32) = 3 by decide, show ¬ (5 : Int32) = 4 by decide, if_false, if_true] at hK
      obtain ⟨f, f1, f2⟩ := (dd j hj).2.2.2.2.1
      exact if_yes rfl (cg_d_of (cg_R_ref nj rfl (cg_d_of (cg_al_of f1 hK))))
    refine if_no y5 ?_
    by_cases y6 : x2 = 6
    · subst y6
      simp only [show ¬ (6 : Int32) = 0 by decide, show ¬ (6 : Int32) = 1 by decide, show ¬ (6 : Int32) = 2 by decide, show ¬ (6 : Int32) = 3 by decide, show ¬ (6 : Int32) = 4 by decide, show ¬ (6 : Int32) = 5 by decide, if_false, if_true] at hK
      refine if_yes rfl (cg_d_of (cg_I_of nj rfl ?_))
      rw [P.2.1 j hj]
      exact hK
    refine if_no y6 ?_
    simp only [y0, y1, y2, y3, y4, y5, y6, if_false] at hK
    exact hK
theorem md_pc (M : md (st.2.1 0) n d D) {k : Nat} (hk : k < n) : mp_pc st d k = md_ps d (D k) := (M.2.2.2.2.1 k hk).2.2.1
theorem md_pa (M : md (st.2.1 0) n d D) (ok : nd_ok mk n D) {k j : Nat} (hk : k < n) (hj : j < n) : decide (mp_pc st d k = nI (d j)) = decide ((D k).2.2.1 = some j) := by
  rw [md_pc M hk]
  unfold md_ps
  apply decide_eq_decide.mpr
  have hdj := (M.2.2.1 j hj).1
  cases e : (D k).2.2.1 with
  | none =>
    simp only [reduceCtorEq, iff_false]
    intro q
    have := congrArg Int32.toInt q
    rw [nI_toInt (by omega), show (-1 : Int32).toInt = -1 by decide] at this
    omega
  | some p =>
    have hp := (ok.2 k hk).2.2.1 p e
    have hdp := (M.2.2.1 p (by omega)).1
    simp only [Option.some.injEq]
    exact ⟨fun q => M.2.2.2.1 p j (by omega) hj ((nI_eq (by omega) (by omega)).mp q), fun q => by rw [q]⟩
theorem md_pe (M : md (st.2.1 0) n d D) (ok : nd_ok mk n D) {k j : Nat} (hk : k < n) (hj : j < n) : decide (mp_pc st d k = mp_pc st d j) = decide ((D k).2.2.1 = (D j).2.2.1) := by
  rw [md_pc M hj]
  unfold md_ps
  cases e : (D j).2.2.1 with
  | none =>
    rw [md_pc M hk]
    unfold md_ps
    apply decide_eq_decide.mpr
    cases e2 : (D k).2.2.1 with
    | none => simp
    | some p =>
      have hp := (ok.2 k hk).2.2.1 p e2
      have hdp := (M.2.2.1 p (by omega)).1
      simp only [reduceCtorEq, iff_false]
      intro q
      have := congrArg Int32.toInt q
      rw [nI_toInt (by omega), show (-1 : Int32).toInt = -1 by decide] at this
      omega
  | some p =>
    have hp := (ok.2 j hj).2.2.1 p e
    exact md_pa M ok hk (by omega)
theorem pm_node (I : mPIC st mk n D m D2 xs rs ch) (ok : nd_ok mk n D) (x x2 : Int32) : g_node x x2 st = some (a_node n D x x2, st) := by
  obtain ⟨⟨d, M⟩, r⟩ := I
  rw [mp_node (md_D M) (md_P M ok) M.2.2.2.1 x x2, md_at M]
  unfold a_node
  cases e : a_at n D x with
  | none => rfl
  | some j =>
    have hj := (a_at_some e).1
    have rj := M.2.2.2.2.1 j hj
    simp only []
    rw [mp_cn_congr n (fun k hk => md_pa M ok hk hj), mp_cn_congr j (fun k hk => md_pe M ok (by omega) hj), rj.2.2.2.2.2.1, rj.2.2.2.1, rj.2.2.2.2.1]
    cases e2 : (D j).2.2.1 with
    | none => rfl
    | some p =>
      have hp := (ok.2 j hj).2.2.1 p e2
      simp only []
      rw [(M.2.2.2.2.1 p (by omega)).1, ← nI_1, Int32.add_sub_cancel]
end PN1
