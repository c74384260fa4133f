-- replace: the class over its picture
section PR4
variable {dA : Nat → ClassId} {h h1 : hm_T} {z z1 : hz_T} {y mk n m : Nat} {D D2 : Nat → nd} {xs : List Nat} {rs : List Int32} {ch : Int32} {a aM aO aE : Nat} {N B E : Nat → Nat} {J : Nat → Int32 × Option Nat × Int32 × Nat × Nat × Int32} {V : Nat → Int32 × Nat × Nat} {Q : Nat → Prop} {tf : Nat → Nat}
/-- one change more -/
theorem pc_inc (I : cPIC dA y h z mk n D m D2 xs rs ch) {K : hm_T → Prop} (hK : ∀ h1, cPIC dA y h1 z mk n D m D2 xs rs (ch + 1) → K h1) : cg_I h 0 5 y (fun v => cg_p h 0 5 y (.int (v + 1)) K) := by
  obtain ⟨bu, bv, sc, sv, fo, a, aM, aO, aE, N, B, E, J, V, ws, S, jB, jS, ⟨g, jF, jG⟩, T, P, d, d2, r⟩ := I
  refine cg_I_of S rfl (cg_p_of S (show _ < 6 by decide) (hK _ ?_))
  obtain ⟨mb, nb, fb, b1, b2, br⟩ := id jB
  obtain ⟨ms, ns, fs, s1, s2, sr⟩ := id jS
  have M : ∀ e, hm_mo h (hm_u h y e) (fun b => b = y) := fun e => hm_mo.u rfl
  have hY : ∀ b, b = y → cp_Q y bu bv sc sv fo a aM aO aE mk N b := fun b q => Or.inr (Or.inl q)
  exact ⟨bu, bv, sc, sv, fo, a, aM, aO, aE, N, B, E, J, V, ws, hm_s, jB.mo (M _) (hm_ne b1 S rfl) (hm_ne b2 S rfl), jS.mo (M _) (hm_ne s1 S rfl) (hm_ne s2 S rfl), ⟨g, M _ _ _ jF (hm_ne jF S rfl), jG⟩, T.mo (M _) (fun b hb q => by subst q; exact cp_nX T S rfl rfl rfl hb), P, d.mo (M _) hz_mo.refl hY (fun _ _ _ q => q) (fun _ _ => rfl), d2.mo (M _) hz_mo.refl hY (fun _ _ _ q => q) (fun _ _ => rfl), r⟩
/-- a node's text written -/
theorem pc_settext {bu bv sc sv fo : Nat} {ws : List Nat} (S : cp_S h y bu sc a fo (nI rs.length) ch) (jB : jb dA h bu bv xs) (jS : jb dA h sc sv ws) (jF : ∃ g : Nat → Int32, h fo = some (.inl (dA 0, 40, .inl g)) ∧ ∀ j, j < rs.length → g j = rs.getD j 0) (T : cp_T dA h a aM aO aE mk n m N B E J V) (P : cp_P mk n N B J V) (d : cp_doc dA h z (cp_Q y bu bv sc sv fo a aM aO aE mk N) B J (fun x => (V x).2.1) n D) (d2 : cp_doc dA h z (cp_Q y bu bv sc sv fo a aM aO aE mk N) E J (fun x => (V x).2.2) m D2) (r : bu ≠ sc ∧ bv ≠ sv ∧ bv ≠ fo ∧ sv ≠ fo) (ok : nd_ok mk n D) {k t u : Nat} {xs2 : List Nat} (hk : k < n) (hz : z t = some (u, xs2)) {e : va_E} (he : e = .inr (8, [.int (J (B k)).1, va_rf (J (B k)).2.1, .int (J (B k)).2.2.1, .ref (J (B k)).2.2.2.1, .ref (J (B k)).2.2.2.2.1, .int (J (B k)).2.2.2.2.2, .int (V (B k)).1, .ref t, .ref (V (B k)).2.2])) : cPIC dA y (hm_u h (B k) e) z mk n (nd_set D k xs2) m D2 xs rs ch := by
  obtain ⟨mb, nb, fb, b1, b2, br⟩ := id jB
  obtain ⟨ms, ns, fs, s1, s2, sr⟩ := id jS
  obtain ⟨g, jF, jG⟩ := jF
  have hx := T.2.2.2.2.2.1 k hk
  have nk := cp_nB T hk
  have M : hm_mo h (hm_u h (B k) e) (fun b => b = B k) := hm_mo.u rfl
  have hY : ∀ b, b = B k → cp_Q y bu bv sc sv fo a aM aO aE mk N b := fun b q => Or.inl (Or.inr (Or.inr (Or.inr (Or.inr (by rw [q]; exact hx)))))
  have T2 := cp_Tw (v := ((V (B k)).1, t, (V (B k)).2.2)) T hx he
  have hB := cp_Bi P ok.1
  refine ⟨bu, bv, sc, sv, fo, a, aM, aO, aE, N, B, E, J, _, ws, M _ _ S (hm_ne S nk rfl), jB.mo M (hm_ne b1 nk rfl) (hm_ne b2 nk rfl), jS.mo M (hm_ne s1 nk rfl) (hm_ne s2 nk rfl), ⟨g, M _ _ jF (hm_ne jF nk rfl), jG⟩, T2, ⟨P.1, fun i hi => ?_, fun i hi q => ?_⟩, ?_, ?_, r⟩
  · unfold cp_up
    by_cases q : B i = B k
    · rw [if_pos q, ← q]; exact P.2.1 i hi
    · rw [if_neg q]; exact P.2.1 i hi
  · unfold cp_up
    rw [if_neg (Ne.symm (q k hk))]
    exact P.2.2 i hi q
  · intro i hi
    have d' := d.mo (tf2 := fun x => (V x).2.1) M hz_mo.refl hY (fun _ _ _ q => q) (fun _ _ => rfl) i hi
    rw [nd_set_pa]
    by_cases q : i = k
    · subst q
      rw [nd_set_s]
      obtain ⟨a1, a2, a3, a4, a5, a6, a7, a8⟩ := d'
      refine ⟨a1, a2, a3, a4, a5, a6, a7, u, ?_⟩
      show z (cp_up V (B i) _ (B i)).2.1 = _
      unfold cp_up
      rw [if_pos rfl]
      exact hz
    · rw [nd_set_n q]
      obtain ⟨a1, a2, a3, a4, a5, a6, a7, u2, a8⟩ := d'
      refine ⟨a1, a2, a3, a4, a5, a6, a7, u2, ?_⟩
      show z (cp_up V (B k) _ (B i)).2.1 = _
      unfold cp_up
      rw [if_neg (fun e => q (hB i k hi hk e))]
      exact a8
  · refine d2.mo M hz_mo.refl hY (fun _ _ _ q => q) (fun i hi => ?_)
    show (cp_up V (B k) _ (E i)).2.2 = _
    unfold cp_up
    by_cases q : E i = B k
    · rw [if_pos q, q]
    · rw [if_neg q]
theorem pc_replace (I : cPIC dA y h z mk n D m D2 xs rs ch) (ok : aOK mk n D m D2 xs rs) {c s : Nat} (hc : 3 ≤ c) (hs : 288 ≤ s) {x : Int32} {K : Int32 → hm_T → hz_T → Prop} (hK : ∀ k h1 z1, a_at n D x = some k → a_may (D k).2.1 xs = true → cPIC dA y h1 z1 mk n (nd_set D k xs) m D2 [] rs (ch + 1) → K 1 h1 z1) (h0 : (∀ k, a_at n D x = some k → a_may (D k).2.1 xs = false) → ∀ h1 z1, cPIC dA y h1 z1 mk n D m D2 [] rs ch → K 0 h1 z1) : w_Store_replace dA y x c s K h z := by
  have S0 : ∃ fs, h y = some (.inr (0, fs)) := by
    obtain ⟨bu, bv, sc, sv, fo, a, aM, aO, aE, N, B, E, J, V, ws, S, r⟩ := I
    exact ⟨_, S⟩
  obtain ⟨fs0, S0⟩ := S0
  have hl := ok.2.2.2.1
  have hch := ok.2.2.2.2.1
  unfold w_Store_replace
  refine cg_c_of S0 (cg_rm_of hc hs (pc_useBuffer I (Nat.le_refl _) (Nat.le_refl _) (fun t h1 z1 ⟨u, ht⟩ I1 => ?_)))
  have I2 := I1
  obtain ⟨bu, bv, sc, sv, fo, a, aM, aO, aE, N, B, E, J, V, ws, S, jB, jS, jF, T, P, d, d2, r⟩ := I1
  refine cg_R_ref S rfl (cg_d_of (cg_c_of T.1 ?_))
  cases e : a_at n D x with
  | none => exact cp_find_none T P (cp_nn T P d (a_at_none e)) (if_yes rfl (h0 (fun k hk => by rw [e] at hk; cases hk) h1 z1 I2))
  | some k =>
    obtain ⟨hk, rfl⟩ := a_at_some e
    have o := ok.1.2 k hk
    refine cp_find_some T P hk o.1 (cp_nu T P d ok.1 ok.2.2.1 hk) (if_no (by simp) (cg_d_of (cg_I_of (cp_nB T hk) rfl ?_)))
    rw [(d k hk).1]
    refine cp_may ht (by omega) (fun c hc => by have := hch c hc; omega) o.2.1.2 ?_
    cases e2 : a_may (D k).2.1 xs with
    | false =>
      rw [if_neg (show ¬ false = true by decide)]
      exact if_yes rfl (h0 (fun k2 hk2 => by rw [e] at hk2; cases hk2; exact e2) h1 z1 I2)
    | true =>
      rw [if_pos (show true = true from rfl)]
      refine if_no (by decide) (cg_d_of (cg_p_of (cp_nB T hk) (show 7 < 9 by decide) ?_))
      exact pc_inc (pc_settext S jB jS jF T P d d2 r ok.1 hk ht rfl) (fun h2 I3 => hK k h2 z1 e e2 I3)
end PR4
