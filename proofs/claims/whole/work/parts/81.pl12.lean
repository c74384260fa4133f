-- reading: the element that is being read, its attributes
section PL12
variable {dA : Nat → ClassId} {h0 : hm_T} {z0 : hz_T} {sv0 : Nat} {op : Option Nat} {od y tt : Nat} {xs : List Nat} {rd sc : Nat} {h h1 : hm_T} {z z1 : hz_T} {p p1 : Nat} {wr wr1 : Int32} {d : Nat} {as : List Nat} {sv sv1 : Nat} {ws ws1 : List Nat} {tm tm1 : Int32} {W : List wn} {E E2 : Nat → Prop}
theorem rRD.own_mo (D : rRD dA h0 z0 sv0 op y tt xs rd sc E h z p wr d as sv ws tm W) {Y : Nat → Prop} (hs : sv1 = sv ∨ h sv1 = none) (M : hm_mo h h1 Y) (hY : ∀ b, Y b → b = y ∨ b = sc ∨ b = sv ∨ fr0 h0 sv0 b) : (sv1 = sv0 ∨ h0 sv1 = none) ∧ hm_mo h0 h1 (fun b => b = sc ∨ b = sv0) := by
  obtain ⟨D1, D2, D3, D4, D5, D6, D7, D8, D9, D10, D11, D12, D13⟩ := D
  obtain ⟨mb, nb, fb, b1, b2, br⟩ := id D3
  refine ⟨sv_chain (Y := fun b => b = sc ∨ b = sv0) (sv := sv0) D7 (fun b w => w.elim (fun w => Or.inr (by rw [w, b1]; simp)) Or.inl) D9 hs, fun b e hb n => ?_⟩
  have n1 : b ≠ sc := fun w => n (Or.inl w)
  have n2 : b ≠ sv0 := fun w => n (Or.inr w)
  refine M b e (D7 b e hb n) (fun w => ?_)
  rcases hY b w with w | w | w | w
  · rw [w, D11] at hb; cases hb
  · exact n1 w
  · rcases D9 with q | q
    · exact n2 (w.trans q)
    · rw [w, q] at hb; cases hb
  · rcases w with q | q
    · rw [q] at hb; cases hb
    · exact n2 q
theorem rRD.frsv (D : rRD dA h0 z0 sv0 op y tt xs rd sc E h z p wr d as sv ws tm W) : fr0 h0 sv0 sv := D.2.2.2.2.2.2.2.2.1.elim Or.inr Or.inl
/-- the cells of the element that is being read -/
def rC (x aq l ad : Nat) (aas : List Nat) (b : Nat) : Prop := b = x ∨ b = aq ∨ b = l ∨ (b = ad ∧ aas ≠ []) ∨ ∃ i, i < aas.length ∧ b = aas.getD i 0
/-- an element that is being read: its name and some attributes are there -/
def rPe (dA : Nat → ClassId) (h0 : hm_T) (z0 : hz_T) (sv0 : Nat) (op : Option Nat) (y tt : Nat) (xs : List Nat) (rd sc : Nat) (par : Option Nat) (dep l : Nat) (lab : List Int32) (x aq : Nat) (nm : List Nat) (h : hm_T) (z : hz_T) (p d : Nat) (as : List Nat) (sv : Nat) (ws : List Nat) (ov : Bool) (W : List wn) (ad : Nat) (aas : List Nat) (att : List (List Nat × List Nat)) : Prop :=
  rRD dA h0 z0 sv0 op y tt xs rd sc (fun b => b = x ∨ b = aq ∨ (b = ad ∧ aas ≠ [])) h z p (-1) d (as ++ [x]) sv ws (tmI ov) W ∧ (∃ t e2 : Nat, h x = some (.inr (8, [.int (nI 1), va_rf (rPar op (as ++ [x]) (0, par, 0, [], [], [])), .int (nI dep), .ref l, .ref aq, .int (-1), .int (-1), .ref t, .ref e2])) ∧ (∃ u, z t = some (u, nm)) ∧ ∃ u, z e2 = some (u, [])) ∧ ja dA h aq ad aas ∧ aas.length = att.length ∧ (∀ i, i < att.length → cp_at1 h z (aas.getD i 0) (att.getD i ([], []))) ∧ cp_lab dA h l lab ∧ (∀ b, rC x aq l ad aas b → ¬ rQ eNo y rd d sc sv (as ++ [x]) b ∧ fr0 h0 sv0 b) ∧ att.length ≤ p ∧ ∀ q ∈ att, q.1.length < 1000 ∧ ∀ c ∈ q.1, c < 128
theorem getD_att_l {att : List (List Nat × List Nat)} {nv : List Nat × List Nat} {i : Nat} (h : i < att.length) : (att ++ [nv]).getD i ([], []) = att.getD i ([], []) := by
  rw [List.getD_eq_getElem?_getD, List.getElem?_append_left h, ← List.getD_eq_getElem?_getD]
theorem getD_att_r {att : List (List Nat × List Nat)} {nv : List Nat × List Nat} : (att ++ [nv]).getD att.length ([], []) = nv := by
  rw [List.getD_eq_getElem?_getD, List.getElem?_append_right (Nat.le_refl _), Nat.sub_self]; rfl
variable {par : Option Nat} {dep l x aq : Nat} {lab : List Int32} {nm : List Nat} {ov : Bool} {ad : Nat} {aas : List Nat} {att : List (List Nat × List Nat)}
theorem rPe.cell (Pe : rPe dA h0 z0 sv0 op y tt xs rd sc par dep l lab x aq nm h z p d as sv ws ov W ad aas att) {b : Nat} (hb : rC x aq l ad aas b) : ∃ e, h b = some e := by
  obtain ⟨D, ⟨t, e2, c1, z1, z2⟩, j, el, ra, ⟨lf, L1, L2⟩, nQ, hal, ha⟩ := Pe
  obtain ⟨mo, j1, j2⟩ := id j
  rcases hb with w | w | w | w | ⟨i, hi, w⟩
  · exact ⟨_, by rw [w]; exact c1⟩
  · exact ⟨_, by rw [w]; exact j1⟩
  · exact ⟨_, by rw [w]; exact L1⟩
  · rcases j2 with k | ⟨_, n, f, c3, _⟩
    · exact absurd k.1 w.2
    · exact ⟨_, by rw [w.1]; exact c3⟩
  · obtain ⟨p1, p2, u1, u2, c3, _⟩ := ra i (by omega)
    exact ⟨_, by rw [w]; exact c3⟩
/-- one attribute more -/
theorem rPe.attr (Pe : rPe dA h0 z0 sv0 op y tt xs rd sc par dep l lab x aq nm h z p d as sv ws ov W ad aas att) (hp : p < xs.length) {c s : Nat} (hc : 7 + 11 * (aE (p_att xs (p + 1) att) + 1 - p) ≤ c) (hs : 640 + 872 * (aE (p_att xs (p + 1) att) + 1 - p) ≤ s) {K : Int32 → hm_T → hz_T → Prop}
    (kok : ∀ q nv, p_att xs (p + 1) att = .inr (q, nv) → ∀ (h1 : hm_T) (z1 : hz_T) (sv1 ad1 o : Nat) (ws1 : List Nat), rPe dA h0 z0 sv0 op y tt xs rd sc par dep l lab x aq nm h1 z1 q d as sv1 ws1 (ov || decide (20 < nv.2.length)) W ad1 (aas ++ [o]) (att ++ [nv]) → K 1 h1 z1)
    (kerr : ∀ e, p_att xs (p + 1) att = .inl e → rEr dA h0 z0 sv0 y tt rd sc e (K 0)) : w_MarkupReader_readAttribute dA y (some x) c s K h z := by
  have Pe0 := Pe
  obtain ⟨D, ⟨t, e2, c1, zt, ze⟩, j, el, ra, hL, nQ, hal, ha⟩ := Pe
  have hlen := D.2.1.2.1
  have hcx := D.2.1.2.2
  obtain ⟨D1, D2, D3, D4, D5, D6, D7, D8, D9, D10, D11, D12, D13⟩ := id D
  obtain ⟨mb, nb, fb, b1, b2, br⟩ := id D3
  obtain ⟨mo4, r1, r2⟩ := id D4
  have hd4 : ∃ n f, h d = some (.inl (dA 6, n, .inr (.inr (.inr (.inr f))))) := by
    rcases r2 with ⟨k2, _⟩ | ⟨_, n, f, c3, _⟩
    · exact absurd k2 (by simp)
    · exact ⟨n, f, c3⟩
  obtain ⟨nd, fd, cd⟩ := hd4
  have ne : as ++ [x] ≠ [] := by simp
  have hY : ∀ b, (b = y ∨ b = sc ∨ b = sv ∨ b = aq ∨ (b = ad ∧ aas ≠ [])) → b = y ∨ b = sc ∨ b = sv ∨ ((b = x ∨ b = aq ∨ (b = ad ∧ aas ≠ [])) ∧ fr0 h0 sv0 b ∧ b ≠ rd ∧ (as ++ [x] ≠ [] → b ≠ d)) := fun b w => by
    have cq : rC x aq l ad aas b → fr0 h0 sv0 b ∧ b ≠ rd ∧ (as ++ [x] ≠ [] → b ≠ d) := fun k => ⟨(nQ b k).2, fun e => (nQ b k).1 (Or.inr (Or.inl e)), fun n e => (nQ b k).1 (Or.inr (Or.inr (Or.inl ⟨e, n⟩)))⟩
    rcases w with w | w | w | w | w
    · exact Or.inl w
    · exact Or.inr (Or.inl w)
    · exact Or.inr (Or.inr (Or.inl w))
    · exact Or.inr (Or.inr (Or.inr ⟨Or.inr (Or.inl w), cq (Or.inr (Or.inl w))⟩))
    · exact Or.inr (Or.inr (Or.inr ⟨Or.inr (Or.inr w), cq (Or.inr (Or.inr (Or.inr (Or.inl w))))⟩))
  have hY2 : ∀ b, (b = y ∨ b = sc ∨ b = sv ∨ b = aq ∨ (b = ad ∧ aas ≠ [])) → b = y ∨ b = sc ∨ b = sv ∨ fr0 h0 sv0 b := fun b w => (hY b w).elim Or.inl (fun w => w.elim (fun w => Or.inr (Or.inl w)) (fun w => w.elim (fun w => Or.inr (Or.inr (Or.inl w))) (fun w => Or.inr (Or.inr (Or.inr w.2.1)))))
  refine rl_attr D1 D2 D3 D13 hp c1 rfl j el ra ha (by omega) hc hs (fun q nv e h1 z1 sv1 ad1 o ws1 R1 jS1 hs1 j1 had ho ho2 M Z => ?_) (fun e9 e h1 z1 sv1 p1 tm1 ws1 R1 jS1 hs1 M Z => ?_)
  · have L := (p_att_le (xs := xs) (p := p + 1) (as := att) (by omega)).2 q nv e
    rw [tm_val] at R1
    obtain ⟨mb1, nb1, fb1, s1, s2, sr⟩ := id jS1
    obtain ⟨mo1, q1, q2⟩ := id j1
    have q3 : ∃ n f, h1 ad1 = some (.inl (dA 6, n, .inr (.inr (.inr (.inr f))))) := by
      rcases q2 with ⟨k2, _⟩ | ⟨_, n, f, c3, _⟩
      · exact absurd k2 (by simp)
      · exact ⟨n, f, c3⟩
    obtain ⟨n3, f3, c3⟩ := q3
    obtain ⟨op1, op2, ou1, ou2, co, _⟩ := id ho
    have nY : ∀ b, rC x aq l ad aas b → b ≠ aq → (aas ≠ [] → b ≠ ad) → ¬ (b = y ∨ b = sc ∨ b = sv ∨ b = aq ∨ (b = ad ∧ aas ≠ [])) := fun b k n1 n2 w => by
      have nq := (nQ b k).1
      rcases w with w | w | w | w | w
      · exact nq (Or.inl w)
      · exact nq (Or.inr (Or.inr (Or.inr (Or.inl w))))
      · exact nq (Or.inr (Or.inr (Or.inr (Or.inr (Or.inl w)))))
      · exact n1 w
      · exact n2 w.2 w.1
    obtain ⟨mo, ja1, ja2⟩ := id j
    have adc : aas ≠ [] → ∃ n f, h ad = some (.inl (dA 6, n, .inr (.inr (.inr (.inr f))))) := fun n => by
      rcases ja2 with k | ⟨_, n, f, c3, _⟩
      · exact absurd k.1 n
      · exact ⟨n, f, c3⟩
    have mv : ∀ {b : Nat} {e : va_E}, h b = some e → rC x aq l ad aas b → Nat.beq (hm_tag e) 4 = false → Nat.beq (hm_tag e) 104 = false → h1 b = some e := fun hb k t4 t104 => M _ _ hb (nY _ k (hm_ne hb ja1 t4) (fun n => by obtain ⟨n9, f9, c9⟩ := adc n; exact hm_ne hb c9 t104))
    have Cx : rC x aq l ad aas x := Or.inl rfl
    have Cl : rC x aq l ad aas l := Or.inr (Or.inr (Or.inl rfl))
    obtain ⟨lf, L1, L2⟩ := id hL
    -- the new cells
    have had1 : ¬ rQ eNo y rd d sc sv1 (as ++ [x]) ad1 := fun k => by
      rcases k with k | k | k | k | k | k
      · exact hm_ne c3 R1 rfl k
      · have := M _ _ r1 (fun w => by
          rcases w with w | w | w | w | w
          · exact hm_ne r1 D1 rfl w
          · exact hm_ne r1 b1 rfl w
          · exact hm_ne r1 b2 rfl w
          · exact (nQ aq (Or.inr (Or.inl rfl))).1 (Or.inr (Or.inl w.symm))
          · obtain ⟨n9, f9, c9⟩ := adc w.2; exact hm_ne r1 c9 rfl w.1)
        exact hm_ne c3 this rfl k
      · rcases had with w | w | w
        · exact (nQ ad (Or.inr (Or.inr (Or.inr (Or.inl ⟨rfl, w.2⟩))))).1 (Or.inr (Or.inr (Or.inl ⟨w.1.symm.trans k.1, k.2⟩)))
        · rw [k.1, cd] at w; cases w
        · exact hm_ne cd b2 rfl (k.1.symm.trans w)
      · exact hm_ne c3 s1 rfl k
      · exact hm_ne c3 s2 rfl k
      · exact k
    have hado : ¬ rQ eNo y rd d sc sv1 (as ++ [x]) o := fun k => by
      rcases k with k | k | k | k | k | k
      · exact hm_ne co R1 rfl k
      · rcases ho2 with w | w
        · rw [k, r1] at w; cases w
        · exact hm_ne r1 b2 rfl (k.symm.trans w)
      · rcases ho2 with w | w
        · rw [k.1, cd] at w; cases w
        · exact hm_ne cd b2 rfl (k.1.symm.trans w)
      · exact hm_ne co s1 rfl k
      · exact hm_ne co s2 rfl k
      · exact k
    have fad : fr0 h0 sv0 ad1 := by
      rcases had with w | w | w
      · rw [w.1]; exact (nQ ad (Or.inr (Or.inr (Or.inr (Or.inl ⟨rfl, w.2⟩))))).2
      · exact D.fr w
      · rw [w]; exact D.frsv
    have fo : fr0 h0 sv0 o := by
      rcases ho2 with w | w
      · exact D.fr w
      · rw [w]; exact D.frsv
    refine kok q nv e h1 z1 sv1 ad1 o ws1 ⟨?_, ?_, j1, ?_, ?_, ?_, ?_, ?_, ?_⟩
    · refine D.own R1 jS1 hs1 M hY Z (tmI_01 _) (fun b e9 hb w => ?_)
      rcases w with w | w | w
      · exact Or.inl (Or.inl w)
      · exact Or.inl (Or.inr (Or.inl w))
      · rcases had with k | k | k
        · exact Or.inl (Or.inr (Or.inr ⟨w.1.trans k.1, k.2⟩))
        · rw [w.1, k] at hb; cases hb
        · exact Or.inr (Or.inl (w.1.trans k))
    · exact ⟨t, e2, mv c1 Cx rfl rfl, (by obtain ⟨u, w⟩ := zt; exact ⟨u, Z _ _ w⟩), by obtain ⟨u, w⟩ := ze; exact ⟨u, Z _ _ w⟩⟩
    · rw [List.length_append, List.length_append, el]; rfl
    · intro i hi
      rw [List.length_append] at hi
      by_cases w : i < att.length
      · rw [getD_att_l w, getD_app_l (by omega)]
        obtain ⟨p1, p2, u1, u2, k1, k2, k3⟩ := ra i w
        exact ⟨p1, p2, u1, u2, mv k1 (Or.inr (Or.inr (Or.inr (Or.inr ⟨i, by omega, rfl⟩)))) rfl rfl, Z _ _ k2, Z _ _ k3⟩
      · have e9 : i = att.length := by simp at hi; omega
        subst e9
        rw [getD_att_r, ← el, getD_app_r]
        exact ho
    · exact ⟨lf, mv L1 Cl rfl rfl, L2⟩
    · intro b k
      have old : rC x aq l ad aas b → ¬ rQ eNo y rd d sc sv1 (as ++ [x]) b ∧ fr0 h0 sv0 b := fun k => by
        obtain ⟨e9, hb⟩ := Pe0.cell k
        refine ⟨fun w => ?_, (nQ b k).2⟩
        have nq := (nQ b k).1
        rcases w with w | w | w | w | w | w
        · exact nq (Or.inl w)
        · exact nq (Or.inr (Or.inl w))
        · exact nq (Or.inr (Or.inr (Or.inl w)))
        · exact nq (Or.inr (Or.inr (Or.inr (Or.inl w))))
        · rcases hs1 with g | g
          · exact nq (Or.inr (Or.inr (Or.inr (Or.inr (Or.inl (w.trans g))))))
          · rw [w, g] at hb; cases hb
        · exact w
      rcases k with k | k | k | k | ⟨i, hi, k⟩
      · exact old (Or.inl k)
      · exact old (Or.inr (Or.inl k))
      · exact old (Or.inr (Or.inr (Or.inl k)))
      · rw [k.1]; exact ⟨had1, fad⟩
      · rw [List.length_append] at hi
        by_cases w : i < aas.length
        · rw [getD_app_l w] at k
          exact old (Or.inr (Or.inr (Or.inr (Or.inr ⟨i, w, k⟩))))
        · have e9 : i = aas.length := by simp at hi; omega
          subst e9
          rw [getD_app_r] at k
          rw [k]; exact ⟨hado, fo⟩
    · rw [List.length_append]; simp; omega
    · intro g hg
      rcases List.mem_append.mp hg with w | w
      · exact ha g w
      · have : g = nv := by simpa using w
        rw [this, L.2.2.2]
        refine ⟨by rw [List.length_take]; have := (a_let_small (xs := xs) (p := p + 1)).1; omega, fun c hc => hcx c (List.mem_of_mem_drop (List.mem_of_mem_take hc))⟩
  · have w := D.own_mo hs1 M hY2
    exact kerr e9 e h1 z1 sv1 p1 tm1 ws1 R1 jS1 w.1 w.2 (D8.trans Z)
end PL12
