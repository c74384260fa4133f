-- the reader is made; the limits
/-- without the cell q -/
def hm_del (h : hm_T) (q : Nat) : hm_T := fun b => if b = q then none else h b
theorem hm_del_o {h : hm_T} {q b : Nat} (w : b ≠ q) : hm_del h q b = h b := if_neg w
theorem hm_del_s {h : hm_T} {q : Nat} : hm_del h q q = none := if_pos rfl
section PQ2
variable {dA : Nat → ClassId} {h h1 : hm_T} {z z1 : hz_T} {y mk n m : Nat} {D D2 : Nat → nd} {xs ws ws2 : List Nat} {rs : List Int32} {ch : Int32} {bu bv sc sv fo a aM aO aE : Nat} {N B E : Nat → Nat} {J : Nat → Int32 × Option Nat × Int32 × Nat × Nat × Int32} {V : Nat → Int32 × Nat × Nat}
theorem cPCS.buf (C : cPCS dA y h z mk n D m D2 xs rs ch bu bv sc sv fo a aM aO aE N B E J V ws) {xs2 : List Nat} {u : Nat} (jB1 : jb dA h1 bu u xs2) (hu : u = bv ∨ h u = none) (M : hm_mo h h1 (fun b => b = bu ∨ b = bv)) (Mz : hz_mo z z1) : cPCS dA y h1 z1 mk n D m D2 xs2 rs ch bu u sc sv fo a aM aO aE N B E J V ws := by
  obtain ⟨S, jB, jS, ⟨g, jF, jG⟩, T, P, d, d2, r⟩ := C
  obtain ⟨mb, nb, fb, b1, b2, br⟩ := id jB
  obtain ⟨ms, ns, fs, s1, s2, sr⟩ := id jS
  have hY : ∀ b, (b = bu ∨ b = bv) → cp_Q y bu bv sc sv fo a aM aO aE mk N b := fun b q => Or.inr (Or.inr (q.elim Or.inl (fun q => Or.inr (Or.inl q))))
  have hQ : ∀ (b : Nat) (e : va_E), h b = some e → ¬ cp_Q y bu bv sc sv fo a aM aO aE mk N b → ¬ cp_Q y bu u sc sv fo a aM aO aE mk N b := by
    intro b e hb nq q
    rcases q with q | q | q | q | q | q | q
    · exact nq (Or.inl q)
    · exact nq (Or.inr (Or.inl q))
    · exact nq (Or.inr (Or.inr (Or.inl q)))
    · rcases hu with k | k
      · exact nq (Or.inr (Or.inr (Or.inr (Or.inl (q.trans k)))))
      · rw [q, k] at hb; cases hb
    · exact nq (Or.inr (Or.inr (Or.inr (Or.inr (Or.inl q)))))
    · exact nq (Or.inr (Or.inr (Or.inr (Or.inr (Or.inr (Or.inl q))))))
    · exact nq (Or.inr (Or.inr (Or.inr (Or.inr (Or.inr (Or.inr q))))))
  have nu : ∀ {b : Nat} {e : va_E}, h b = some e → bv ≠ b → u ≠ b := by
    intro b e hb nb q
    rcases hu with k | k
    · exact nb (k.symm.trans q)
    · rw [← q, k] at hb; cases hb
  refine ⟨M _ _ S (fun q => q.elim (hm_ne S b1 rfl) (hm_ne S b2 rfl)), jB1, jS.mo M (fun q => q.elim (Ne.symm r.1) (hm_ne s1 b2 rfl)) (fun q => q.elim (hm_ne s2 b1 rfl) (Ne.symm r.2.1)), ⟨g, M _ _ jF (fun q => q.elim (hm_ne jF b1 rfl) (Ne.symm r.2.2.1)), jG⟩, T.mo M (fun b hb q => ?_), P, d.mo M Mz hY hQ (fun _ _ => rfl), d2.mo M Mz hY hQ (fun _ _ => rfl), r.1, nu s2 r.2.1, nu jF r.2.2.1, r.2.2.2⟩
  rcases q with q | q
  · subst q; exact cp_nX T b1 rfl rfl rfl hb
  · subst q; exact cp_nX T b2 rfl rfl rfl hb
theorem cPCS.pic (C : cPCS dA y h z mk n D m D2 xs rs ch bu bv sc sv fo a aM aO aE N B E J V ws) : cPIC dA y h z mk n D m D2 xs rs ch := ⟨bu, bv, sc, sv, fo, a, aM, aO, aE, N, B, E, J, V, ws, C⟩
/-- the markup reader's constructor -/
theorem rl_init {q t : Nat} {fs : List Value} (c0 : h q = some (.inr (6, fs))) (hf : fs.length = 6) {c s : Nat} (hc : 1 ≤ c) (hs : 3 ≤ s) {K : hm_T → hz_T → Prop} (hK : ∀ (h1 : hm_T) (rd : Nat), h1 q = some (r6c t 0 (-1) rd sc 0) → ja dA h1 rd (dA 99) [] → h rd = none → hm_mo h h1 (fun b => b = q) → K h1 z) : w_MarkupReader_init dA q (some t) (some sc) c s K h z := by
  obtain ⟨f0, f1, f2, f3, f4, f5, rfl⟩ : ∃ a b c d e f, fs = [a, b, c, d, e, f] := by
    match fs, hf with
    | [a, b, c, d, e, f], _ => exact ⟨a, b, c, d, e, f, rfl⟩
  unfold w_MarkupReader_init w_TextReader_init6
  refine cg_c_of c0 (cg_p_of c0 (show 0 < 6 by decide) (cg_p_of hm_s (show 1 < 6 by decide) (cg_p_of hm_s (show 2 < 6 by decide) ?_)))
  rw [hm_uu, hm_uu]
  refine cg_new_of hc hs (fun rd hrd => cg_c_of hm_s (cg_rm_0 (ja_init hm_s (fun h5 j5 M5 => ?_))))
  have qr : q ≠ rd := fun w => by rw [← w, hm_s] at hrd; cases hrd
  have hr0 : h rd = none := by rw [hm_n (Ne.symm qr)] at hrd; exact hrd
  have c5 := M5 _ _ (by rw [hm_n qr, hm_s]) qr
  refine cg_p_of c5 (show 3 < 6 by decide) (cg_p_of hm_s (show 4 < 6 by decide) (cg_p_of hm_s (show 5 < 6 by decide) ?_))
  rw [hm_uu, hm_uu]
  obtain ⟨mo, j1, j2⟩ := id j5
  refine hK _ rd hm_s (j5.mo (Y := fun b => b = q) (hm_mo.u rfl) (Ne.symm qr) (fun w => absurd rfl w)) hr0 (fun b e hb w => ?_)
  have br : b ≠ rd := fun w2 => by rw [w2, hr0] at hb; cases hb
  rw [hm_n w]
  refine M5 _ _ ?_ br
  rw [hm_n br, hm_n w]
  exact hb
def a_over (W : List wn) (ov : Bool) : Bool := ov || W.any (fun w => decide (16 < w.2.2.2.1.length))
end PQ2
section PQ2b
variable {dA : Nat → ClassId} {h0 : hm_T} {z0 : hz_T} {sv0 : Nat} {op : Option Nat} {y tt : Nat} {xs : List Nat} {rd sc : Nat} {h : hm_T} {z : hz_T} {p : Nat} {wr : Int32} {d : Nat} {as : List Nat} {sv : Nat} {ws : List Nat} {ov : Bool} {W : List wn} {E : Nat → Prop}
theorem rl_limitsL (D : rRD dA h0 z0 sv0 op y tt xs rd sc eNo h z p wr d as sv ws (tmI ov) W) (hl : as.length = W.length) (hW : W.length ≤ 130) (hlab : ∀ i, i < W.length → (W.getD i wn0).2.2.2.1.length < 1000) {K : Int32 → hm_T → hz_T → Prop} (hK : K (tmI (a_over W ov)) h z) : ∀ (r fu k : Nat), k + r = W.length → r < fu → (∀ i, i < k → (W.getD i wn0).2.2.2.1.length ≤ 16) → w_MarkupReader_passesLimits_2 dA y K fu (nI k) h z := by
  obtain ⟨mo, r1, r2⟩ := id D.2.2.2.1
  intro r
  induction r with
  | zero =>
    intro fu k hk hf hh
    obtain ⟨fu, rfl⟩ : ∃ f, fu = f + 1 := ⟨fu - 1, by omega⟩
    unfold w_MarkupReader_passesLimits_2
    refine cg_R_ref D.1 rfl (cg_d_of ⟨d, as.length, mo, r1, if_yes (nI_le (by omega) (by omega)) (cg_I_of D.1 rfl ⟨tmI_01 ov, ?_⟩)⟩)
    have e : a_over W ov = ov := by
      unfold a_over
      have : W.any (fun w => decide (16 < w.2.2.2.1.length)) = false := by
        rw [List.any_eq_false]
        intro w hw
        obtain ⟨i, hi, e⟩ := List.mem_iff_getElem.mp hw
        have := hh i (by omega)
        rw [List.getD_eq_getElem?_getD, List.getElem?_eq_getElem hi, Option.getD_some, e] at this
        simp; omega
      rw [this, Bool.or_false]
    rw [e] at hK
    exact hK
  | succ r ih =>
    intro fu k hk hf hh
    obtain ⟨fu, rfl⟩ : ∃ f, fu = f + 1 := ⟨fu - 1, by omega⟩
    have hne : as ≠ [] := fun w => by rw [w] at hl; simp at hl; omega
    rcases r2 with j2 | ⟨_, nn, ff, c3, w1, w2, w3⟩
    · exact absurd j2.1 hne
    obtain ⟨l, aq, tx, kt, k1, _, _, ⟨lf, L1, L2⟩, _⟩ := (D.2.2.2.2.2.1 k (by omega)).1
    have hl9 := hlab k (by omega)
    unfold w_MarkupReader_passesLimits_2
    refine cg_R_ref D.1 rfl (cg_d_of ⟨d, as.length, mo, r1, if_no (nI_ge (by omega) (by omega)) (cg_R_ref D.1 rfl (cg_d_of ⟨d, as.length, mo, nn, k, as.getD k 0, ff, r1, c3, rfl, by omega, w1, by omega, w3 k (by omega), cg_c_of k1 (cg_R_ref k1 rfl (cg_d_of (cg_al_of L1 ?_)))⟩))⟩)
    by_cases q : (W.getD k wn0).2.2.2.1.length ≤ 16
    · rw [nI_1]
      exact if_yes (nI_le (b := 16) q (by decide)) (ih fu (k + 1) (by omega) (by omega) (fun i hi => by
        by_cases w : i = k
        · rw [w]; exact q
        · exact hh i (by omega)))
    · have e : a_over W ov = true := by
        unfold a_over
        have : W.any (fun w => decide (16 < w.2.2.2.1.length)) = true := by
          rw [List.any_eq_true]
          refine ⟨W.getD k wn0, ?_, decide_eq_true (by omega)⟩
          rw [List.getD_eq_getElem?_getD, List.getElem?_eq_getElem (by omega), Option.getD_some]
          exact List.getElem_mem _
        rw [this, Bool.or_true]
      rw [e] at hK
      exact if_no (nI_ge (a := 16) (by omega) (by omega)) hK
theorem rl_limits (D : rRD dA h0 z0 sv0 op y tt xs rd sc eNo h z p wr d as sv ws (tmI ov) W) (hl : as.length = W.length) (hW : W.length ≤ 130) (hlab : ∀ i, i < W.length → (W.getD i wn0).2.2.2.1.length < 1000) {K : Int32 → hm_T → hz_T → Prop} (hK : K (tmI (a_over W ov)) h z) : w_MarkupReader_passesLimits dA y K h z := rl_limitsL D hl hW hlab hK W.length mF 0 (by omega) (by unfold mF; omega) (fun i hi => absurd hi (Nat.not_lt_zero _))
/-- the world at the reader's start -/
theorem rl_start {q t rd0 : Nat} {h2 h3 : hm_T} {z2 : hz_T} {ws0 : List Nat} (jS : jb dA (hm_del h2 q) sc sv ws0) (R : h3 q = some (r6c t 0 (-1) rd0 sc 0)) (jr : ja dA h3 rd0 (dA 99) []) (hrd : h2 rd0 = none) (M : hm_mo h2 h3 (fun b => b = q)) (T : rT z2 t xs) : rRD dA (hm_del h2 q) z2 sv op q t xs rd0 sc eNo h3 z2 0 (-1) (dA 99) [] sv ws0 (tmI false) [] := by
  have M0 : hm_mo (hm_del h2 q) h3 (fun _ => False) := fun b e hb _ => by
    by_cases w : b = q
    · rw [w, hm_del_s] at hb; cases hb
    · rw [hm_del_o w] at hb
      exact M _ _ hb w
  refine ⟨R, T, jS.mo M0 id id, jr, ⟨Nat.le_refl _, fun i j hi => absurd hi (Nat.not_lt_zero _)⟩, fun i hi => absurd hi (Nat.not_lt_zero _), M0.weak (fun b w => w.elim), hz_mo.refl, Or.inl rfl, fun w => absurd rfl w, hm_del_s, ?_, Or.inl rfl⟩
  by_cases w : rd0 = q
  · rw [w, hm_del_s]
  · rw [hm_del_o w]; exact hrd
end PQ2b
