-- remove: the class
/-- what the class's cells hold, by name -/
def cPCS (dA : Nat → ClassId) (y : Nat) (h : hm_T) (z : hz_T) (mk n : Nat) (D : Nat → nd) (m : Nat) (D2 : Nat → nd) (xs : List Nat) (rs : List Int32) (ch : Int32) (bu bv sc sv fo a aM aO aE : Nat) (N B E : Nat → Nat) (J : Nat → Int32 × Option Nat × Int32 × Nat × Nat × Int32) (V : Nat → Int32 × Nat × Nat) (ws : List Nat) : Prop :=
  cp_S h y bu sc a fo (nI rs.length) ch ∧ jb dA h bu bv xs ∧ jb dA h sc sv ws ∧ (∃ g : Nat → Int32, h fo = some (.inl (dA 0, 40, .inl g)) ∧ ∀ j, j < rs.length → g j = rs.getD j 0) ∧ cp_T dA h a aM aO aE mk n m N B E J V ∧ cp_P mk n N B J V ∧ cp_doc dA h z (cp_Q y bu bv sc sv fo a aM aO aE mk N) B J (fun x => (V x).2.1) n D ∧ cp_doc dA h z (cp_Q y bu bv sc sv fo a aM aO aE mk N) E J (fun x => (V x).2.2) m D2 ∧ bu ≠ sc ∧ bv ≠ sv ∧ bv ≠ fo ∧ sv ≠ fo
section PD2
variable {dA : Nat → ClassId} {h h1 : hm_T} {z z1 : hz_T} {y mk n m : Nat} {D D2 : Nat → nd} {xs ws ws2 : List Nat} {rs : List Int32} {ch : Int32} {bu bv sc sv fo a aM aO aE : Nat} {N B E : Nat → Nat} {J : Nat → Int32 × Option Nat × Int32 × Nat × Nat × Int32} {V : Nat → Int32 × Nat × Nat}
/-- behind a step that wrote the scratch alone -/
theorem cPCS.scr (C : cPCS dA y h z mk n D m D2 xs rs ch bu bv sc sv fo a aM aO aE N B E J V ws) {u : Nat} (jS1 : jb dA h1 sc u ws2) (hu : u = sv ∨ h u = none) (M : hm_mo h h1 (fun b => b = sc ∨ b = sv)) (Mz : hz_mo z z1) : cPCS dA y h1 z1 mk n D m D2 xs rs ch bu bv sc u fo a aM aO aE N B E J V ws2 := by
  obtain ⟨S, jB, jS, ⟨g, jF, jG⟩, T, P, d, d2, r⟩ := C
  obtain ⟨mb, nb, fb, b1, b2, br⟩ := id jB
  obtain ⟨ms, ns, fs, s1, s2, sr⟩ := id jS
  have hY : ∀ b, (b = sc ∨ b = sv) → cp_Q y bu bv sc sv fo a aM aO aE mk N b := fun b q => Or.inr (Or.inr (Or.inr (Or.inr (q.elim Or.inl (fun q => Or.inr (Or.inl q))))))
  have hQ : ∀ (b : Nat) (e : va_E), h b = some e → ¬ cp_Q y bu bv sc sv fo a aM aO aE mk N b → ¬ cp_Q y bu bv sc u fo a aM aO aE mk N b := by
    intro b e hb nq q
    rcases q with q | q | q | q | q | q | q
    · exact nq (Or.inl q)
    · exact nq (Or.inr (Or.inl q))
    · exact nq (Or.inr (Or.inr (Or.inl q)))
    · exact nq (Or.inr (Or.inr (Or.inr (Or.inl q))))
    · exact nq (Or.inr (Or.inr (Or.inr (Or.inr (Or.inl q)))))
    · rcases hu with k | k
      · exact nq (Or.inr (Or.inr (Or.inr (Or.inr (Or.inr (Or.inl (q.trans k)))))))
      · rw [q, k] at hb; cases hb
    · exact nq (Or.inr (Or.inr (Or.inr (Or.inr (Or.inr (Or.inr q))))))
  have nu : ∀ {b : Nat} {e : va_E}, h b = some e → sv ≠ b → u ≠ b := by
    intro b e hb nb q
    rcases hu with k | k
    · exact nb (k.symm.trans q)
    · rw [← q, k] at hb; cases hb
  refine ⟨M _ _ S (fun q => q.elim (hm_ne S s1 rfl) (hm_ne S s2 rfl)), jB.mo M (fun q => q.elim r.1 (hm_ne b1 s2 rfl)) (fun q => q.elim (hm_ne b2 s1 rfl) r.2.1), jS1, ⟨g, M _ _ jF (fun q => q.elim (hm_ne jF s1 rfl) (Ne.symm r.2.2.2)), jG⟩, T.mo M (fun b hb q => ?_), P, d.mo M Mz hY hQ (fun _ _ => rfl), d2.mo M Mz hY hQ (fun _ _ => rfl), r.1, Ne.symm (nu b2 (Ne.symm r.2.1)), r.2.2.1, nu jF r.2.2.2⟩
  rcases q with q | q
  · subst q; exact cp_nX T s1 rfl rfl rfl hb
  · subst q; exact cp_nX T s2 rfl rfl rfl hb
theorem cp_cut_ix {f t i : Nat} : cp_cut B f t i = B (nd_ix f t i) := by
  unfold cp_cut nd_ix
  by_cases q : i < f
  · rw [if_pos q, if_pos q]
  · rw [if_neg q, if_neg q]
/-- behind a step that took places out -/
theorem pc_cut (C : cPCS dA y h z mk n D m D2 xs rs ch bu bv sc sv fo a aM aO aE N B E J V ws) (ok : nd_ok mk n D) {f t : Nat} (hft : f ≤ t) (ht : t ≤ n) (cl : nd_cl n D f t) (T1 : cp_T dA h1 a aM aO aE mk (n - (t - f)) m N (cp_cut B f t) E J (cp_sp (cp_so V B f (t - f)) (cp_cut B f t) (n - (t - f)))) (F1 : cp_F h h1 a aM aO aE mk N) : cPIC dA y h1 z mk (n - (t - f)) (nd_cut D f t) m D2 xs rs ch := by
  obtain ⟨S, jB, jS, ⟨g, jF, jG⟩, T, P, d, d2, r⟩ := C
  obtain ⟨mb, nb, fb, b1, b2, br⟩ := id jB
  obtain ⟨ms, ns, fs, s1, s2, sr⟩ := id jS
  have M := F1.mo
  have hY : ∀ b, cp_X a aM aO aE mk N b → cp_Q y bu bv sc sv fo a aM aO aE mk N b := fun b q => Or.inl q
  have hB := cp_Bi P ok.1
  refine ⟨bu, bv, sc, sv, fo, a, aM, aO, aE, N, _, E, J, _, ws, M _ _ S (cp_nX T S rfl rfl rfl), jB.mo M (cp_nX T b1 rfl rfl rfl) (cp_nX T b2 rfl rfl rfl), jS.mo M (cp_nX T s1 rfl rfl rfl) (cp_nX T s2 rfl rfl rfl), ⟨g, M _ _ jF (cp_nX T jF rfl rfl rfl), jG⟩, T1, ⟨P.1, fun i hi => ?_, fun i hi q => ?_⟩, fun i hi => ?_, d2.mo M hz_mo.refl hY (fun _ _ _ q => q) (fun k hk => ?_), r⟩
  · refine cp_sp_1 (n := n - (t - f)) (fun i j hi hj e => ?_) _ (Nat.le_refl _) i hi
    rw [cp_cut_ix, cp_cut_ix] at e
    exact nd_ix_inj (hB _ _ (nd_ix_lt hft ht hi).1 (nd_ix_lt hft ht hj).1 e)
  · rw [cp_sp_o _ _ (fun j hj => q j hj)]
    by_cases hb : ∃ k, k < n ∧ B k = N i
    · obtain ⟨k, hk, e⟩ := hb
      by_cases hr : f ≤ k ∧ k < t
      · rw [← e, show k = f + (k - f) by omega]
        exact cp_so_1 _ _ (by omega)
      · exfalso
        have hc : k < f ∨ t ≤ k := by omega
        refine q (nd_sh f t k) ?_ (by rw [cp_cut_ix, nd_ix_sh hft hc]; exact e)
        unfold nd_sh
        by_cases w : k < f
        · rw [if_pos w]; omega
        · rw [if_neg w]; omega
    · rw [cp_so_o _ _ (fun j hj w => hb ⟨f + j, by omega, w⟩)]
      exact P.2.2 i hi (fun k hk w => hb ⟨k, hk, w⟩)
  · have hx := nd_ix_lt hft ht hi
    obtain ⟨a1, a2, a3, a4, a5, a6, a7, u, a8⟩ := d.mo (tf2 := fun x => (V x).2.1) M hz_mo.refl hY (fun _ _ _ q => q) (fun _ _ => rfl) _ hx.1
    rw [cp_cut_ix, nd_cut_dep ok hft ht cl i hi]
    refine ⟨a1, ?_, a3, a4, a5, a6, a7, u, ?_⟩
    · rw [a2]
      show _ = (((D (nd_ix f t i)).2.2.1).map (nd_sh f t)).map (cp_cut B f t)
      cases e : (D (nd_ix f t i)).2.2.1 with
      | none => rfl
      | some p =>
        show some (B p) = some (cp_cut B f t (nd_sh f t p))
        rw [cp_cut_ix, nd_ix_sh hft (cl _ hx.1 hx.2 p e)]
    · show z (cp_sp (cp_so V B f (t - f)) (cp_cut B f t) (n - (t - f)) (B (nd_ix f t i))).2.1 = _
      rw [cp_sp_2, cp_so_2]
      exact a8
  · show (cp_sp (cp_so V B f (t - f)) (cp_cut B f t) (n - (t - f)) (E k)).2.2 = _
    rw [cp_sp_2, cp_so_2]
end PD2
/-- who is joined with what follows when the node at k goes -/
def a_end (n : Nat) (D : Nat → nd) (k : Nat) : Nat := mp_end (fun k => (D k).2.2.1) n k
def a_left (D : Nat → nd) (k : Nat) : Option Nat := mp_lst (fun j => decide ((D j).2.2.1 = (D k).2.2.1)) k
def a_join (n : Nat) (D : Nat → nd) (k : Nat) : Option Nat := match a_left D k with
  | some i => if (D i).2.1 = 2 ∧ a_end n D k < n ∧ (D (a_end n D k)).2.2.1 = (D k).2.2.1 ∧ (D (a_end n D k)).2.1 = 2 then some i else none
  | none => none
theorem mp_lst_some {P : Nat → Bool} : ∀ (k : Nat) {j : Nat}, mp_lst P k = some j → j < k ∧ P j = true := by
  intro k
  induction k with
  | zero => intro j h; cases h
  | succ k ih =>
    intro j h
    unfold mp_lst at h
    cases q : P k with
    | true => rw [q] at h; cases h; exact ⟨by omega, q⟩
    | false =>
      rw [q] at h
      have := ih h
      exact ⟨by omega, this.2⟩
theorem a_right {mk n k p : Nat} {D : Nat → nd} (ok : nd_ok mk n D) (h : nd_pre n D) (hk : k < n) (hp : (D k).2.2.1 = some p) : mp_fst (fun j => decide ((D j).2.2.1 = some p)) (n - a_end n D k) (a_end n D k) = if a_end n D k < n ∧ (D (a_end n D k)).2.2.1 = some p then some (a_end n D k) else none := by
  have hs := mp_end_spec (pa := fun k => (D k).2.2.1) hk
  by_cases q : a_end n D k < n ∧ (D (a_end n D k)).2.2.1 = some p
  · rw [if_pos q]
    obtain ⟨r, hr⟩ : ∃ r, n - a_end n D k = r + 1 := ⟨n - a_end n D k - 1, by omega⟩
    rw [hr]
    simp only [mp_fst, q.2, decide_true, if_true]
  · rw [if_neg q]
    cases e : mp_fst (fun j => decide ((D j).2.2.1 = some p)) (n - a_end n D k) (a_end n D k) with
    | none => rfl
    | some r =>
      exfalso
      have h1 := mp_fst_some _ _ e
      have h2 : (D r).2.2.1 = some p := of_decide_eq_true h1.2
      have h3 := hs.1
      unfold a_end at h1
      have := nd_right ok h hk hp (show r < n by omega) (by omega) h2
      exact q ⟨by unfold a_end; omega, this.2⟩
theorem a_right2 {mk n k p : Nat} {D : Nat → nd} (ok : nd_ok mk n D) (h : nd_pre n D) (hk : k < n) (hp : (D k).2.2.1 = some p) : mp_fst (fun j => decide ((D j).2.2.1 = some p)) (n - (k + 1)) (k + 1) = if a_end n D k < n ∧ (D (a_end n D k)).2.2.1 = some p then some (a_end n D k) else none := by
  have hs := mp_end_spec (pa := fun k => (D k).2.2.1) hk
  have h1 : ∀ k, k < n → ∀ p, (fun k => (D k).2.2.1) k = some p → p < k := fun k hk p hp => (ok.2 k hk).2.2.1 p hp
  rw [← a_right ok h hk hp, show n - (k + 1) = (a_end n D k - (k + 1)) + (n - a_end n D k) by unfold a_end; omega, mp_fst_le]
  have e : mp_fst (fun j => decide ((D j).2.2.1 = some p)) (a_end n D k - (k + 1)) (k + 1) = none := by
    cases e : mp_fst (fun j => decide ((D j).2.2.1 = some p)) (a_end n D k - (k + 1)) (k + 1) with
    | none => rfl
    | some r =>
      exfalso
      have h3 := mp_fst_some _ _ e
      have h2 : (D r).2.2.1 = some p := of_decide_eq_true h3.2
      unfold a_end at h3
      have d1 := hs.2.2.1 r (by omega) (by omega)
      have d2 := mp_dep_some (pa := fun k => (D k).2.2.1) h1 hk hp
      have d3 := mp_dep_some (pa := fun k => (D k).2.2.1) h1 (show r < n by omega) h2
      omega
  rw [e]
  simp only []
  congr 1
  unfold a_end
  omega
