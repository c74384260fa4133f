-- reading: the element that is being read, its attributes
section PL12
variable {dA : Nat → ClassId} {h0 : hm_T} {z0 : hz_T} {sv0 : Nat} {op : Option Nat} {od y tt : Nat} {xs : List Nat} {rd sc : Nat} {h h1 : hm_T} {z z1 : hz_T} {p p1 : Nat} {wr wr1 : Int32} {d : Nat} {as : List Nat} {sv sv1 : Nat} {ws ws1 : List Nat} {tm tm1 : Int32} {W : List wn} {E E2 : Nat → Prop}
theorem rRD.own_mo (D : rRD dA h0 z0 sv0 op y tt xs rd sc E h z p wr d as sv ws tm W) {Y : Nat → Prop} (hs : sv1 = sv ∨ h sv1 = none) (M : hm_mo h h1 Y) (hY : ∀ b, Y b → b = y ∨ b = sc ∨ b = sv ∨ fr0 h0 sv0 b) : (sv1 = sv0 ∨ h0 sv1 = none) ∧ hm_mo h0 h1 (fun b => b = sc ∨ b = sv0) := by
  obtain ⟨D1, D2, D3, D4, D5, D6, D7, D8, D9, D10, D11, D12, D13⟩ := D
  obtain ⟨mb, nb, fb, b1, b2, br⟩ := id D3
  refine ⟨sv_chain (Y := fun b => b = sc ∨ b = sv0) (sv := sv0) D7 (fun b w => w.elim (fun w => Or.inr (by rw [w, b1]; simp)) Or.inl) D9 hs, fun b e hb n => ?_⟩
  have n1 : b ≠ sc := fun w => n (Or.inl w)
  have n2 : b ≠ sv0 := fun w => n (Or.inr w)
  refine M b e (D7 b e hb n) (fun w => ?_)
  rcases hY b w with w | w | w | w
  · rw [w, D11] at hb; cases hb
  · exact n1 w
  · rcases D9 with q | q
    · exact n2 (w.trans q)
    · rw [w, q] at hb; cases hb
  · rcases w with q | q
    · rw [q] at hb; cases hb
    · exact n2 q
theorem rRD.frsv (D : rRD dA h0 z0 sv0 op y tt xs rd sc E h z p wr d as sv ws tm W) : fr0 h0 sv0 sv := D.2.2.2.2.2.2.2.2.1.elim Or.inr Or.inl
/-- the cells of the element that is being read -/
def rC (x aq l ad : Nat) (aas : List Nat) (b : Nat) : Prop := b = x ∨ b = aq ∨ b = l ∨ (b = ad ∧ aas ≠ []) ∨ ∃ i, i < aas.length ∧ b = aas.getD i 0
/-- an element that is being read: its name and some attributes are there -/
def rPe (dA : Nat → ClassId) (h0 : hm_T) (z0 : hz_T) (sv0 : Nat) (op : Option Nat) (y tt : Nat) (xs : List Nat) (rd sc : Nat) (par : Option Nat) (dep l : Nat) (lab : List Int32) (x aq : Nat) (nm : List Nat) (h : hm_T) (z : hz_T) (p d : Nat) (as : List Nat) (sv : Nat) (ws : List Nat) (ov : Bool) (W : List wn) (ad : Nat) (aas : List Nat) (att : List (List Nat × List Nat)) : Prop :=
  rRD dA h0 z0 sv0 op y tt xs rd sc (fun b => b = x ∨ b = aq ∨ (b = ad ∧ aas ≠ [])) h z p (-1) d (as ++ [x]) sv ws (tmI ov) W ∧ (∃ t e2 : Nat, h x = some (.inr (8, [.int (nI 1), va_rf (rPar op (as ++ [x]) (0, par, 0, [], [], [])), .int (nI dep), .ref l, .ref aq, .int (-1), .int (-1), .ref t, .ref e2])) ∧ (∃ u, z t = some (u, nm)) ∧ ∃ u, z e2 = some (u, [])) ∧ ja dA h aq ad aas ∧ aas.length = att.length ∧ (∀ i, i < att.length → cp_at1 h z (aas.getD i 0) (att.getD i ([], []))) ∧ cp_lab dA h l lab ∧ (∀ b, rC x aq l ad aas b → ¬ rQ eNo y rd d sc sv (as ++ [x]) b ∧ fr0 h0 sv0 b) ∧ att.length ≤ p ∧ ∀ q ∈ att, q.1.length < 1000 ∧ ∀ c ∈ q.1, c < 128
theorem getD_att_l {att : List (List Nat × List Nat)} {nv : List Nat × List Nat} {i : Nat} (h : i < att.length) : (att ++ [nv]).getD i ([], []) = att.getD i ([], []) := by
  rw [List.getD_eq_getElem?_getD, List.getElem?_append_left h, ← List.getD_eq_getElem?_getD]
theorem getD_att_r {att : List (List Nat × List Nat)} {nv : List Nat × List Nat} : (att ++ [nv]).getD att.length ([], []) = nv := by
  rw [List.getD_eq_getElem?_getD, List.getElem?_append_right (Nat.le_refl _), Nat.sub_self]; rfl
variable {par : Option Nat} {dep l x aq : Nat} {lab : List Int32} {nm : List Nat} {ov : Bool} {ad : Nat} {aas : List Nat} {att : List (List Nat × List Nat)}
theorem rPe.cell (Pe : rPe dA h0 z0 sv0 op y tt xs rd sc par dep l lab x aq nm h z p d as sv ws ov W ad aas att) {b : Nat} (hb : rC x aq l ad aas b) : ∃ e, h b = some e := by
  obtain ⟨D, ⟨t, e2, c1, z1, z2⟩, j, el, ra, ⟨lf, L1, L2⟩, nQ, hal, ha⟩ := Pe
  obtain ⟨mo, j1, j2⟩ := id j
  rcases hb with w | w | w | w | ⟨i, hi, w⟩
  · exact ⟨_, by rw [w]; exact c1⟩
  · exact ⟨_, by rw [w]; exact j1⟩
  · exact ⟨_, by rw [w]; exact L1⟩
  · rcases j2 with k | ⟨_, n, f, c3, _⟩
    · exact absurd k.1 w.2
    · exact ⟨_, by rw [w.1]; exact c3⟩
  · obtain ⟨p1, p2, u1, u2, c3, _⟩ := ra i (by omega)
    exact ⟨_, by rw [w]; exact c3⟩
/-- one attribute more -/
theorem rPe.attr (Pe : rPe dA h0 z0 sv0 op y tt xs rd sc par dep l lab x aq nm h z p d as sv ws ov W ad aas att) (hp : p < xs.length) {c s : Nat} (hc : 7 + 11 * (aE (p_att xs (p + 1) att) + 1 - p) ≤ c) (hs : 640 + 872 * (aE (p_att xs (p + 1) att) + 1 - p) ≤ s) {K : Int32 → hm_T → hz_T → Prop}
    (kok : ∀ q nv, p_att xs (p + 1) att = .inr (q, nv) → ∀ (h1 : hm_T) (z1 : hz_T) (sv1 ad1 o : Nat) (ws1 : List Nat), rPe dA h0 z0 sv0 op y tt xs rd sc par dep l lab x aq nm h1 z1 q d as sv1 ws1 (ov || decide (20 < nv.2.length)) W ad1 (aas ++ [o]) (att ++ [nv]) → K 1 h1 z1)
    (kerr : ∀ e, p_att xs (p + 1) att = .inl e → rEr dA h0 z0 sv0 y tt rd sc e (K 0)) : w_MarkupReader_readAttribute dA y (some x) c s K h z := by
  have Pe0 := Pe
  obtain ⟨D, ⟨t, e2, c1, zt, ze⟩, j, el, ra, hL, nQ, hal, ha⟩ := Pe
  have hlen := D.2.1.2.1
  have hcx := D.2.1.2.2
  obtain ⟨D1, D2, D3, D4, D5, D6, D7, D8, D9, D10, D11, D12, D13⟩ := id D
  obtain ⟨mb, nb, fb, b1, b2, br⟩ := id D3
  obtain ⟨mo4, r1, r2⟩ := id D4
  have hd4 : ∃ n f, h d = some (.inl (dA 6, n, .inr (.inr (.inr (.inr f))))) := by
    rcases r2 with ⟨k2, _⟩ | ⟨_, n, f, c3, _⟩
    · exact absurd k2 (by simp)
    · exact ⟨n, f, c3⟩
  obtain ⟨nd, fd, cd⟩ := hd4
  have ne : as ++ [x] ≠ [] := by simp
  have hY : ∀ b, (b = y ∨ b = sc ∨ b = sv ∨ b = aq ∨ (b = ad ∧ aas ≠ [])) → b = y ∨ b = sc ∨ b = sv ∨ ((b = x ∨ b = aq ∨ (b = ad ∧ aas ≠ [])) ∧ fr0 h0 sv0 b ∧ b ≠ rd ∧ (as ++ [x] ≠ [] → b ≠ d)) := fun b w => by
    have cq : rC x aq l ad aas b → fr0 h0 sv0 b ∧ b ≠ rd ∧ (as ++ [x] ≠ [] → b ≠ d) := fun k => ⟨(nQ b k).2, fun e => (nQ b k).1 (Or.inr (Or.inl e)), fun n e => (nQ b k).1 (Or.inr (Or.inr (Or.inl ⟨e, n⟩)))⟩
    rcases w with w | w | w | w | w
    · exact Or.inl w
    · exact Or.inr (Or.inl w)
    · exact Or.inr (Or.inr (Or.inl w))
    · exact Or.inr (Or.inr (Or.inr ⟨Or.inr (Or.inl w), cq (Or.inr (Or.inl w))⟩))
    · exact Or.inr (Or.inr (Or.inr ⟨Or.inr (Or.inr w), cq (Or.inr (Or.inr (Or.inr (Or.inl w))))⟩))
  have hY2 : ∀ b, (b = y ∨ b = sc ∨ b = sv ∨ b = aq ∨ (b = ad ∧ aas ≠ [])) → b = y ∨ b = sc ∨ b = sv ∨ fr0 h0 sv0 b := fun b w => (hY b w).elim Or.inl (fun w => w.elim (fun w => Or.inr (Or.inl w)) (fun w => w.elim (fun w => Or.inr (Or.inr (Or.inl w))) (fun w => Or.inr (Or.inr (Or.inr w.2.1)))))
  refine rl_attr D1 D2 D3 D13 hp c1 rfl j el ra ha (by omega) hc hs (fun q nv e h1 z1 sv1 ad1 o ws1 R1 jS1 hs1 j1 had ho ho2 M Z => ?_) (fun e9 e h1 z1 sv1 p1 tm1 ws1 R1 jS1 hs1 M Z => ?_)
  · have L := (p_att_le (xs := xs) (p := p + 1) (as := att) (by omega)).2 q nv e
    rw [tm_val] at R1
    obtain ⟨mb1, nb1, fb1, s1, s2, sr⟩ := id jS1
    obtain ⟨mo1, q1, q2⟩ := id j1
    have q3 : ∃ n f, h1 ad1 = some (.inl (dA 6, n, .inr (.inr (.inr (.inr f))))) := by
      rcases q2 with ⟨k2, _⟩ | ⟨_, n, f, c3, _⟩
      · exact absurd k2 (by simp)
      · exact ⟨n, f, c3⟩
    obtain ⟨n3, f3, c3⟩ := q3
    obtain ⟨op1, op2, ou1, ou2, co, _⟩ := id ho
    have nY : ∀ b, rC x aq l ad aas b → b ≠ aq → (aas ≠ [] → b ≠ ad) → ¬ (b = y ∨ b = sc ∨ b = sv ∨ b = aq ∨ (b = ad ∧ aas ≠ [])) := fun b k n1 n2 w => by
      have nq := (nQ b k).1
      rcases w with w | w | w | w | w
      · exact nq (Or.inl w)
      · exact nq (Or.inr (Or.inr (Or.inr (Or.inl w))))
      · exact nq (Or.inr (Or.inr (Or.inr (Or.inr (Or.inl w)))))
      · exact n1 w
      · exact n2 w.2 w.1
    obtain ⟨mo, ja1, ja2⟩ := id j
    have adc : aas ≠ [] → ∃ n f, h ad = some (.inl (dA 6, n, .inr (.inr (.inr (.inr f))))) := fun n => by
      rcases ja2 with k | ⟨_, n, f, c3, _⟩
      · exact absurd k.1 n
      · exact ⟨n, f, c3⟩
    have mv : ∀ {b : Nat} {e : va_E}, h b = some e → rC x aq l ad aas b → Nat.beq (hm_tag e) 4 = false → Nat.beq (hm_tag e) 104 = false → h1 b = some e := fun hb k t4 t104 => M _ _ hb (nY _ k (hm_ne hb ja1 t4) (fun n => by obtain ⟨n9, f9, c9⟩ := adc n; exact hm_ne hb c9 t104))
    have Cx : rC x aq l ad aas x := Or.inl rfl
    have Cl : rC x aq l ad aas l := Or.inr (Or.inr (Or.inl rfl))
    obtain ⟨lf, L1, L2⟩ := id hL
    -- the new cells
    have had1 : ¬ rQ eNo y rd d sc sv1 (as ++ [x]) ad1 := fun k => by
      rcases k with k | k | k | k | k | k
      · exact hm_ne c3 R1 rfl k
      · have := M _ _ r1 (fun w => by
          rcases w with w | w | w | w | w
          · exact hm_ne r1 D1 rfl w
          · exact hm_ne r1 b1 rfl w
          · exact hm_ne r1 b2 rfl w
          · exact (nQ aq (Or.inr (Or.inl rfl))).1 (Or.inr (Or.inl w.symm))
          · obtain ⟨n9, f9, c9⟩ := adc w.2; exact hm_ne r1 c9 rfl w.1)
        exact hm_ne c3 this rfl k
      · rcases had with w | w | w
        · exact (nQ ad (Or.inr (Or.inr (Or.inr (Or.inl ⟨rfl, w.2⟩))))).1 (Or.inr (Or.inr (Or.inl ⟨w.1.symm.trans k.1, k.2⟩)))
        · rw [k.1, cd] at w; cases w
        · exact hm_ne cd b2 rfl (k.1.symm.trans w)
      · exact hm_ne c3 s1 rfl k
      · exact hm_ne c3 s2 rfl k
      · exact k
    have hado : ¬ rQ eNo y rd d sc sv1 (as ++ [x]) o := fun k => by
      rcases k with k | k | k | k | k | k
      · exact hm_ne co R1 rfl k
      · rcases ho2 with w | w
        · rw [k, r1] at w; cases w
        · exact hm_ne r1 b2 rfl (k.symm.trans w)
      · rcases ho2 with w | w
        · rw [k.1, cd] at w; cases w
        · exact hm_ne cd b2 rfl (k.1.symm.trans w)
      · exact hm_ne co s1 rfl k
      · exact hm_ne co s2 rfl k
      · exact k
    have fad : fr0 h0 sv0 ad1 := by
      rcases had with w | w | w
      · rw [w.1]; exact (nQ ad (Or.inr (Or.inr (Or.inr (Or.inl ⟨rfl, w.2⟩))))).2
      · exact D.fr w
      · rw [w]; exact D.frsv
    have fo : fr0 h0 sv0 o := by
      rcases ho2 with w | w
      · exact D.fr w
      · rw [w]; exact D.frsv
    refine kok q nv e h1 z1 sv1 ad1 o ws1 ⟨?_, ?_, j1, ?_, ?_, ?_, ?_, ?_, ?_⟩
    · refine D.own R1 jS1 hs1 M hY Z (tmI_01 _) (fun b e9 hb w => ?_)
      rcases w with w | w | w
      · exact Or.inl (Or.inl w)
      · exact Or.inl (Or.inr (Or.inl w))
      · rcases had with k | k | k
        · exact Or.inl (Or.inr (Or.inr ⟨w.1.trans k.1, k.2⟩))
        · rw [w.1, k] at hb; cases hb
        · exact Or.inr (Or.inl (w.1.trans k))
    · exact ⟨t, e2, mv c1 Cx rfl rfl, (by obtain ⟨u, w⟩ := zt; exact ⟨u, Z _ _ w⟩), by obtain ⟨u, w⟩ := ze; exact ⟨u, Z _ _ w⟩⟩
    · rw [List.length_append, List.length_append, el]; rfl
    · intro i hi
      rw [List.length_append] at hi
      by_cases w : i < att.length
      · rw [getD_att_l w, getD_app_l (by omega)]
        obtain ⟨p1, p2, u1, u2, k1, k2, k3⟩ := ra i w
        exact ⟨p1, p2, u1, u2, mv k1 (Or.inr (Or.inr (Or.inr (Or.inr ⟨i, by omega, rfl⟩)))) rfl rfl, Z _ _ k2, Z _ _ k3⟩
      · have e9 : i = att.length := by simp at hi; omega
        subst e9
        rw [getD_att_r, ← el, getD_app_r]
        exact ho
    · exact ⟨lf, mv L1 Cl rfl rfl, L2⟩
    · intro b k
      have old : rC x aq l ad aas b → ¬ rQ eNo y rd d sc sv1 (as ++ [x]) b ∧ fr0 h0 sv0 b := fun k => by
        obtain ⟨e9, hb⟩ := Pe0.cell k
        refine ⟨fun w => ?_, (nQ b k).2⟩
        have nq := (nQ b k).1
        rcases w with w | w | w | w | w | w
        · exact nq (Or.inl w)
        · exact nq (Or.inr (Or.inl w))
        · exact nq (Or.inr (Or.inr (Or.inl w)))
        · exact nq (Or.inr (Or.inr (Or.inr (Or.inl w))))
        · rcases hs1 with g | g
          · exact nq (Or.inr (Or.inr (Or.inr (Or.inr (Or.inl (w.trans g))))))
          · rw [w, g] at hb; cases hb
        · exact w
      rcases k with k | k | k | k | ⟨i, hi, k⟩
      · exact old (Or.inl k)
      · exact old (Or.inr (Or.inl k))
      · exact old (Or.inr (Or.inr (Or.inl k)))
      · rw [k.1]; exact ⟨had1, fad⟩
      · rw [List.length_append] at hi
        by_cases w : i < aas.length
        · rw [getD_app_l w] at k
          exact old (Or.inr (Or.inr (Or.inr (Or.inr ⟨i, w, k⟩))))
        · have e9 : i = aas.length := by simp at hi; omega
          subst e9
          rw [getD_app_r] at k
          rw [k]; exact ⟨hado, fo⟩
    · rw [List.length_append]; simp; omega
    · intro g hg
      rcases List.mem_append.mp hg with w | w
      · exact ha g w
      · have : g = nv := by simpa using w
        rw [this, L.2.2.2]
        refine ⟨by rw [List.length_take]; have := (a_let_small (xs := xs) (p := p + 1)).1; omega, fun c hc => hcx c (List.mem_of_mem_drop (List.mem_of_mem_take hc))⟩
  · have w := D.own_mo hs1 M hY2
    exact kerr e9 e h1 z1 sv1 p1 tm1 ws1 R1 jS1 w.1 w.2 (D8.trans Z)
end PL12
-- reading: an element
def tE (r : Nat ⊕ (Nat × List (List Nat × List Nat) × Bool)) : Nat := match r with
  | .inl e => e
  | .inr (q, _) => q
def pccC (r : pR) (p : Nat) : Nat := match r with
  | .inl e => 40 * (e - p) + 41
  | .inr (q, _) => 40 * (q - p)
def pccS (r : pR) (p : Nat) : Nat := match r with
  | .inl e => 2600 * (e - p) + 2640
  | .inr (q, _) => 2600 * (q - p)
/-- a method of the class that reads what lies in the element of index j does as this says -/
def rImpC (dA : Nat → ClassId) (h0 : hm_T) (z0 : hz_T) (sv0 : Nat) (op : Option Nat) (y tt : Nat) (xs : List Nat) (rd sc : Nat) (F : Nat → Option Nat → Nat → Nat → (Int32 → hm_T → hz_T → Prop) → hm_T → hz_T → Prop) (f : Nat → Nat → List Int32 → Nat → List wn → Bool → pR) (N : Nat) : Prop :=
  ∀ (h : hm_T) (z : hz_T) (p d : Nat) (as : List Nat) (sv : Nat) (ws : List Nat) (ov : Bool) (W : List wn) (j dep : Nat) (lab : List Int32) (c s : Nat) (K : Int32 → hm_T → hz_T → Prop), rRD dA h0 z0 sv0 op y tt xs rd sc eNo h z p (-1) d as sv ws (tmI ov) W → as.length = W.length → j < W.length → W.length ≤ p → p ≤ xs.length → (W.getD j wn0).2.2.1 = dep → (W.getD j wn0).2.2.2.1 = lab → lab.length ≤ 18 + dep → dep ≤ 5 → 6 ≤ N + (dep + 1) → pccC (f j (dep + 1) lab p W ov) p ≤ c → pccS (f j (dep + 1) lab p W ov) p ≤ s →
    (∀ q W1 ov1, f j (dep + 1) lab p W ov = .inr (q, W1, ov1) → ∀ (h1 : hm_T) (z1 : hz_T) (d1 : Nat) (as1 : List Nat) (sv1 : Nat) (ws1 : List Nat), rRD dA h0 z0 sv0 op y tt xs rd sc eNo h1 z1 q (-1) d1 as1 sv1 ws1 (tmI ov1) W1 → as1.length = W1.length → aext as as1 → K 1 h1 z1) →
    (∀ e, f j (dep + 1) lab p W ov = .inl e → rEr dA h0 z0 sv0 y tt rd sc e (K 0)) → F y (some (as.getD j 0)) c s K h z
theorem atts_room {p q aE E tl c s : Nat} (h1 : p + 5 ≤ q) (hq : aE = q) (ht : q ≤ tl) (hc : 40 * (tl - p) + 20 ≤ c) (hs : 2600 * (tl - p) + 1600 ≤ s) : 7 + 11 * (aE + 1 - p) ≤ c ∧ 640 + 872 * (aE + 1 - p) ≤ s ∧ 40 * (tl - q) + 20 ≤ c - (7 + 11 * (aE + 1 - p)) ∧ 2600 * (tl - q) + 1600 ≤ s - (640 + 872 * (aE + 1 - p)) ∧ c ≤ c - (7 + 11 * (aE + 1 - p)) + 40 * (q - p) ∧ s ≤ s - (640 + 872 * (aE + 1 - p)) + 2600 * (q - p) := by omega
theorem atts_roomE {p aE c s : Nat} (h1 : p ≤ aE) (hc : 40 * (aE - p) + 20 ≤ c) (hs : 2600 * (aE - p) + 1600 ≤ s) : 7 + 11 * (aE + 1 - p) ≤ c ∧ 640 + 872 * (aE + 1 - p) ≤ s := by omega
theorem room_ch40 {c c1 c2 p q q2 : Nat} (h1 : c ≤ c1 + 40 * (q - p)) (h2 : c1 ≤ c2 + 40 * (q2 - q)) (a : p ≤ q) (b : q ≤ q2) : c ≤ c2 + 40 * (q2 - p) := by omega
theorem room_ch26 {c c1 c2 p q q2 : Nat} (h1 : c ≤ c1 + 2600 * (q - p)) (h2 : c1 ≤ c2 + 2600 * (q2 - q)) (a : p ≤ q) (b : q ≤ q2) : c ≤ c2 + 2600 * (q2 - p) := by omega
section PL13
variable {dA : Nat → ClassId} {h0 : hm_T} {z0 : hz_T} {sv0 : Nat} {op : Option Nat} {od y tt : Nat} {xs : List Nat} {rd sc : Nat} {ws0 : List Nat}
theorem rl_atts {P : Nat → Option Nat → Nat → Nat → (Int32 → hm_T → hz_T → Prop) → hm_T → hz_T → Prop} {K : Int32 → hm_T → hz_T → Prop} {par : Option Nat} {dep l x aq : Nat} {lab : List Int32} {nm : List Nat} {d : Nat} {as : List Nat} {W : List wn} : ∀ (f fu k p : Nat) (h : hm_T) (z : hz_T) (sv : Nat) (ws : List Nat) (ov : Bool) (ad : Nat) (aas : List Nat) (att : List (List Nat × List Nat)) (c s : Nat), rPe dA h0 z0 sv0 op y tt xs rd sc par dep l lab x aq nm h z p d as sv ws ov W ad aas att → xs.length + 1 ≤ p + f → xs.length + 1 ≤ p + fu → 0 < fu → k ≤ p → p ≤ xs.length → 40 * (tE (p_atts xs f p att ov) - p) + 20 ≤ c → 2600 * (tE (p_atts xs f p att ov) - p) + 1600 ≤ s →
    (∀ q att1 ov1, p_atts xs f p att ov = .inr (q, att1, ov1) → ∀ (h1 : hm_T) (z1 : hz_T) (sv1 : Nat) (ws1 : List Nat) (ad1 : Nat) (aas1 : List Nat) (c1 s1 : Nat), rPe dA h0 z0 sv0 op y tt xs rd sc par dep l lab x aq nm h1 z1 q d as sv1 ws1 ov1 W ad1 aas1 att1 → c ≤ c1 + 40 * (q - p) → s ≤ s1 + 2600 * (q - p) → w_MarkupReader_readElement_70 dA P y K (some x) c1 s1 h1 z1) →
    (∀ e, p_atts xs f p att ov = .inl e → rEr dA h0 z0 sv0 y tt rd sc e (K 0)) → w_MarkupReader_readElement_29 dA P y K fu (some x) (nI k) c s h z := by
  intro f
  induction f with
  | zero => intro fu k p h z sv ws ov ad aas att c s Pe h1 h2 h3 h4 h5; omega
  | succ f ih =>
    intro fu k p h z sv ws ov ad aas att c s Pe g1 g2 g3 g4 g5 hc hs kok kerr
    obtain ⟨fu, rfl⟩ : ∃ f, fu = f + 1 := ⟨fu - 1, by omega⟩
    have D := Pe.1
    have hlen := D.2.1.2.1
    have hcx := D.2.1.2.2
    obtain ⟨⟨u, hu⟩, _, _⟩ := id D.2.1
    have ep : p_atts xs (f + 1) p att ov = if xs.getD p 0 = 32 then (match p_att xs (p + 1) att with | .inl e => .inl e | .inr (q, nv) => p_atts xs f q (att ++ [nv]) (ov || decide (20 < nv.2.length))) else .inr (p, att, ov) := rfl
    have stop : xs.getD p 0 ≠ 32 → w_MarkupReader_readElement_70 dA P y K (some x) c s h z := fun w => by
      rw [if_neg w] at ep
      exact kok p att ov ep h z sv ws ad aas c s Pe (by omega) (by omega)
    unfold w_MarkupReader_readElement_29
    refine cg_R_ref D.1 rfl (cg_d_of ⟨u, xs, hu, ?_⟩)
    by_cases a0 : xs.length ≤ k
    · refine if_yes (nI_le a0 (by omega)) (stop (fun w => ?_))
      have := getD_pos w (by decide)
      omega
    refine if_no (nI_ge (by omega) (by omega)) (cg_I_of D.1 rfl (cg_c_of D.1 (rl_seen D.1 D.2.1 (by omega) ?_)))
    have h1l := getD_lt hcx p
    by_cases a1 : xs.getD p 0 = 32
    · have hpl := getD_pos a1 (by decide)
      rw [if_pos a1] at ep
      refine if_yes (by rw [a1]; rfl) (cg_c_of D.1 ?_)
      have L := p_att_le (xs := xs) (p := p + 1) (as := att) (by omega)
      cases e : p_att xs (p + 1) att with
      | inl e9 =>
        rw [e] at ep
        rw [ep] at hc hs
        have R := atts_roomE (p := p) (aE := e9) (by have := L.1 e9 e; omega) hc hs
        refine cg_rm_of R.1 R.2 (Pe.attr hpl (by rw [e]; exact Nat.le_refl _) (by rw [e]; exact Nat.le_refl _) (fun q nv w => ?_) (fun e8 w h1 z1 sv1 p1 tm1 ws1 b1 b2 b3 b4 b5 => ?_))
        · rw [e] at w; cases w
        · rw [e] at w; cases w
          exact if_yes rfl (kerr e9 ep h1 z1 sv1 p1 tm1 ws1 b1 b2 b3 b4 b5)
      | inr xx =>
        obtain ⟨q, nv⟩ := xx
        rw [e] at ep
        have Lq := L.2 q nv e
        have T := p_atts_le (xs := xs) f q (att ++ [nv]) (ov || decide (20 < nv.2.length)) Lq.2.1
        have hq : q ≤ tE (p_atts xs f q (att ++ [nv]) (ov || decide (20 < nv.2.length))) := by
          cases e9 : p_atts xs f q (att ++ [nv]) (ov || decide (20 < nv.2.length)) with
          | inl e8 => exact (T.1 _ e9).1
          | inr y8 => obtain ⟨y1, y2, y3⟩ := y8; exact (T.2 _ _ _ e9).1
        simp only [] at ep
        rw [ep] at hc hs kok kerr
        have R := atts_room (E := 0) (by omega) rfl hq hc hs
        refine cg_rm_of R.1 R.2.1 (Pe.attr hpl (by rw [e]; exact Nat.le_refl _) (by rw [e]; exact Nat.le_refl _) (fun q2 nv2 w h1 z1 sv1 ad1 o ws1 Pe1 => ?_) (fun e8 w => ?_))
        · rw [e] at w; cases w
          rw [nI_1]
          refine if_no (by decide) (ih fu (k + 1) q h1 z1 sv1 ws1 _ ad1 _ _ _ _ Pe1 (by have := Lq.1; omega) (by have := Lq.1; omega) (by have := Lq.1; omega) (by have := Lq.1; omega) Lq.2.1 R.2.2.1 R.2.2.2.1 (fun q2 att1 ov1 w2 h2 z2 sv2 ws2 ad2 aas2 c2 s2 Pe2 hc2 hs2 => ?_) kerr)
          have := (T.2 _ _ _ w2).1
          exact kok q2 att1 ov1 w2 h2 z2 sv2 ws2 ad2 aas2 c2 s2 Pe2 (room_ch40 R.2.2.2.2.1 hc2 (by omega) this) (room_ch26 R.2.2.2.2.2 hs2 (by omega) this)
        · rw [e] at w; cases w
    · exact if_no (fun w => a1 ((nI_eq (b := 32) (by omega) (by decide)).mp w)) (stop a1)
end PL13
-- reading: the element's end
theorem p_end_ok {xs : List Nat} : ∀ (nm : List Nat) (p : Nat), (∀ k, k < nm.length → xs.getD (p + k) 0 = nm.getD k 0) → xs.getD (p + nm.length) 0 = 62 → p_end xs nm p = .inr (p + nm.length + 1) := by
  intro nm
  induction nm with
  | nil => intro p _ h; unfold p_end; rw [if_pos (show xs.getD p 0 = 62 from h)]; rfl
  | cons c nm ih =>
    intro p h1 h2
    unfold p_end
    rw [if_pos (show xs.getD p 0 = c from h1 0 (by simp)), ih (p + 1) (fun k hk => by have := h1 (k + 1) (by simp; omega); rw [show p + 1 + k = p + (k + 1) by omega]; exact this) (by rw [show p + 1 + nm.length = p + (c :: nm).length by simp; omega]; exact h2)]
    simp; omega
theorem p_end_er {xs : List Nat} : ∀ (nm : List Nat) (p k : Nat), k ≤ nm.length → (∀ j, j < k → xs.getD (p + j) 0 = nm.getD j 0) → (if k < nm.length then xs.getD (p + k) 0 ≠ nm.getD k 0 else xs.getD (p + k) 0 ≠ 62) → p_end xs nm p = .inl (p + k) := by
  intro nm
  induction nm with
  | nil =>
    intro p k hk _ h
    have : k = 0 := by simpa using hk
    subst this
    rw [if_neg (by simp)] at h
    unfold p_end
    rw [if_neg (show ¬ xs.getD p 0 = 62 from h)]; rfl
  | cons c nm ih =>
    intro p k hk h1 h2
    unfold p_end
    cases k with
    | zero =>
      rw [if_pos (by simp)] at h2
      rw [if_neg (show ¬ xs.getD p 0 = c from h2)]; rfl
    | succ k =>
      rw [if_pos (show xs.getD p 0 = c from h1 0 (by omega)), ih (p + 1) k (by simpa using hk) (fun j hj => by have := h1 (j + 1) (by omega); rw [show p + 1 + j = p + (j + 1) by omega]; exact this) ?_]
      · rw [show p + 1 + k = p + (k + 1) by omega]
      · rw [show p + 1 + k = p + (k + 1) by omega]
        by_cases w : k < nm.length
        · rw [if_pos w]
          rw [if_pos (by simp; omega)] at h2
          exact h2
        · rw [if_neg w]
          rw [if_neg (by simp; omega)] at h2
          exact h2
/-- what follows the attributes -/
def p_tail (PC : Nat → Nat → List Int32 → Nat → List wn → Bool → pR) (xs : List Nat) (par : Option Nat) (dep : Nat) (lab : List Int32) (nm : List Nat) (W : List wn) (q : Nat) (att : List (List Nat × List Nat)) (ov1 : Bool) : pR :=
  if xs.getD q 0 = 47 then (if xs.getD (q + 1) 0 = 62 then .inr (q + 2, W ++ [(1, par, dep, lab, att, nm)], ov1 || decide (3 < att.length)) else .inl (q + 1)) else if xs.getD q 0 ≠ 62 then .inl q else match PC W.length (dep + 1) lab (q + 1) (W ++ [(1, par, dep, lab, att, nm)]) (ov1 || decide (3 < att.length)) with
    | .inl e => .inl e
    | .inr (q2, W2, ov3) => match p_end xs nm (q2 + 2) with
      | .inl e => .inl e
      | .inr q3 => .inr (q3, W2, ov3)
theorem p_elem_tail {PC : Nat → Nat → List Int32 → Nat → List wn → Bool → pR} {xs : List Nat} {par : Option Nat} {dep : Nat} {lab : List Int32} {p : Nat} {W : List wn} {ov : Bool} : p_elem PC xs par dep lab p W ov = match p_atts xs 130 (p + 1 + a_let xs (p + 1)) [] ov with
  | .inl e => .inl e
  | .inr (q, att, ov1) => p_tail PC xs par dep lab ((xs.drop (p + 1)).take (a_let xs (p + 1))) W q att ov1 := rfl
def ptC (r : pR) (p : Nat) : Nat := match r with
  | .inl e => 40 * (e - p) + 40
  | .inr (q, _) => 40 * (q - p)
def ptS (r : pR) (p : Nat) : Nat := match r with
  | .inl e => 2600 * (e - p) + 2600
  | .inr (q, _) => 2600 * (q - p)
theorem p_tail_le {xs : List Nat} {PC : Nat → Nat → List Int32 → Nat → List wn → Bool → pR} {N : Nat} (hC : pOKc xs PC (fun _ dep => 1 ≤ dep ∧ dep ≤ 6 ∧ 6 ≤ N + dep)) {par : Option Nat} {dep : Nat} {lab : List Int32} {nm : List Nat} {W : List wn} {q : Nat} {att : List (List Nat × List Nat)} {ov1 : Bool} (g2 : dep ≤ 5) (g3 : 6 ≤ N + 1 + dep) (hnn : ∀ c ∈ nm, c ≠ 0) (hq : q ≤ xs.length) : (∀ e, p_tail PC xs par dep lab nm W q att ov1 = .inl e → q ≤ e ∧ e ≤ xs.length) ∧ ∀ q3 W3 ov3, p_tail PC xs par dep lab nm W q att ov1 = .inr (q3, W3, ov3) → q + 1 ≤ q3 ∧ q3 ≤ xs.length := by
  unfold p_tail
  by_cases a1 : xs.getD q 0 = 47
  · rw [if_pos a1]
    have := getD_pos a1 (by decide)
    by_cases a2 : xs.getD (q + 1) 0 = 62
    · rw [if_pos a2]
      have := getD_pos a2 (by decide)
      exact ⟨fun e8 w => (by cases w), fun q W1 ov1 w => by cases w; omega⟩
    · rw [if_neg a2]; exact ⟨fun e8 w => by cases w; omega, fun q W1 ov1 w => by cases w⟩
  · rw [if_neg a1]
    by_cases a2 : xs.getD q 0 = 62
    · rw [if_neg (fun w => w a2)]
      have := getD_pos a2 (by decide)
      have I := hC W.length (dep + 1) lab (q + 1) (W ++ [(1, par, dep, lab, att, nm)]) (ov1 || decide (3 < att.length)) (by omega) (fun p => ⟨by omega, by omega, by omega⟩)
      cases e2 : PC W.length (dep + 1) lab (q + 1) (W ++ [(1, par, dep, lab, att, nm)]) (ov1 || decide (3 < att.length)) with
      | inl e9 => exact ⟨fun e8 w => by cases w; have := I.1 _ e2; omega, fun q W1 ov1 w => by cases w⟩
      | inr x2 =>
        obtain ⟨q2, W2, ov3⟩ := x2
        obtain ⟨d1, d2, W4, d3, d4⟩ := I.2 _ _ _ e2
        have T := p_end_le (xs := xs) nm (q2 + 2) hnn d2
        simp only []
        cases e3 : p_end xs nm (q2 + 2) with
        | inl e9 => exact ⟨fun e8 w => by cases w; have := T.1 _ e3; omega, fun q W1 ov1 w => by cases w⟩
        | inr q3 =>
          have := T.2 _ e3
          exact ⟨fun e8 w => (by cases w), fun q W1 ov1 w => by cases w; omega⟩
    · rw [if_pos a2]; exact ⟨fun e8 w => by cases w; omega, fun q W1 ov1 w => by cases w⟩
theorem tl_room1 {q e c s : Nat} (h : q + 1 ≤ e) (hc : 40 * (e - q) + 40 ≤ c) (hs : 2600 * (e - q) + 2600 ≤ s) : 40 * (e - (q + 1)) + 41 ≤ c ∧ 2600 * (e - (q + 1)) + 2640 ≤ s := by omega
theorem tl_room2 {q q2 e c s : Nat} (h : q2 ≤ e) (hc : 40 * (e - q) ≤ c) (hs : 2600 * (e - q) ≤ s) : 40 * (q2 - (q + 1)) ≤ c ∧ 2600 * (q2 - (q + 1)) ≤ s := by omega
section PL14
variable {dA : Nat → ClassId} {h0 : hm_T} {z0 : hz_T} {sv0 : Nat} {op : Option Nat} {od y tt : Nat} {xs : List Nat} {rd sc : Nat} {ws0 : List Nat} {h h1 : hm_T} {z : hz_T} {p p1 d : Nat} {as : List Nat} {sv : Nat} {ws : List Nat} {ov : Bool} {tm1 : Int32} {W : List wn} {par : Option Nat} {dep l x aq : Nat} {lab : List Int32} {nm : List Nat} {ad : Nat} {aas : List Nat} {att : List (List Nat × List Nat)}
/-- the start tag is read: the reader alone has been written since -/
theorem rPe.fin (Pe : rPe dA h0 z0 sv0 op y tt xs rd sc par dep l lab x aq nm h z p d as sv ws ov W ad aas att) (hl : as.length = W.length) (hp : ∀ j, par = some j → j < W.length) (R : h1 y = some (r6c tt p1 (-1) rd sc tm1)) (M : hm_mo h h1 (fun b => b = y)) (ht : tm1 = 0 ∨ tm1 = 1) : rRD dA h0 z0 sv0 op y tt xs rd sc eNo h1 z p1 (-1) d (as ++ [x]) sv ws tm1 (W ++ [(1, par, dep, lab, att, nm)]) := by
  obtain ⟨D, ⟨t, e2, c1, zt, ze⟩, j, el, ra, hL, nQ, hal, ha⟩ := Pe
  have ny : ∀ b, rC x aq l ad aas b → ¬ b = y := fun b k w => (nQ b k).1 (Or.inl w)
  have nq2 : ∀ b, rC x aq l ad aas b → ¬ (rQ eNo y rd d sc sv (as ++ [x]) b ∨ ¬ fr0 h0 sv0 b) := fun b k w => w.elim (nQ b k).1 (fun w => w (nQ b k).2)
  have Cx : rC x aq l ad aas x := Or.inl rfl
  have Ca : rC x aq l ad aas aq := Or.inr (Or.inl rfl)
  have Cl : rC x aq l ad aas l := Or.inr (Or.inr (Or.inl rfl))
  refine (D.mo1 R M hz_mo.refl ht).done (by rw [List.length_append, hl]; rfl) ?_ hp
  rw [← hl, getD_app_r]
  refine ⟨l, aq, t, e2, M _ _ c1 (ny _ Cx), (nQ _ Cx).1, (nQ _ Cx).2, hL.mo M (ny _ Cl), (nQ _ Cl).1, (nQ _ Cl).2, ⟨ad, aas, j.mo M (ny _ Ca) (fun n => ny _ (Or.inr (Or.inr (Or.inr (Or.inl ⟨rfl, n⟩))))), nq2 _ Ca, fun n => nq2 _ (Or.inr (Or.inr (Or.inr (Or.inl ⟨rfl, n⟩)))), el, fun i hi => ?_⟩, zt, ze⟩
  have Ci : rC x aq l ad aas (aas.getD i 0) := Or.inr (Or.inr (Or.inr (Or.inr ⟨i, by rw [el]; exact hi, rfl⟩)))
  obtain ⟨p1, p2, u1, u2, k1, k2, k3⟩ := ra i hi
  exact ⟨⟨p1, p2, u1, u2, M _ _ k1 (ny _ Ci), k2, k3⟩, nq2 _ Ci⟩
theorem getD_wn_r {W W2 : List wn} {w : wn} : (W ++ [w] ++ W2).getD W.length wn0 = w := by
  rw [List.append_assoc, List.getD_eq_getElem?_getD, List.getElem?_append_right (Nat.le_refl _), Nat.sub_self]; rfl
theorem getD_ax {as : List Nat} {x : Nat} {as1 : List Nat} {W : List wn} (hl : as.length = W.length) (a : aext (as ++ [x]) as1) : as1.getD W.length 0 = x := by
  rw [a _ (by rw [List.length_append, ← hl]; simp), ← hl, getD_app_r]
/-- an element behind its attributes -/
theorem rl_elem70 {P : Nat → Option Nat → Nat → Nat → (Int32 → hm_T → hz_T → Prop) → hm_T → hz_T → Prop} {PC : Nat → Nat → List Int32 → Nat → List wn → Bool → pR} {N : Nat} (hP : rImpC dA h0 z0 sv0 op y tt xs rd sc P PC N) (hC : pOKc xs PC (fun _ dep => 1 ≤ dep ∧ dep ≤ 6 ∧ 6 ≤ N + dep)) {K : Int32 → hm_T → hz_T → Prop} {c s : Nat} (Pe : rPe dA h0 z0 sv0 op y tt xs rd sc par dep l lab x aq nm h z p d as sv ws ov W ad aas att) (hl : as.length = W.length) (hp : ∀ j, par = some j → j < W.length) (g2 : dep ≤ 5) (g3 : 6 ≤ N + 1 + dep) (hll : lab.length ≤ 18 + dep) (hnn : ∀ c ∈ nm, c ≠ 0) (hcn : ∀ c ∈ nm, c < 128) (hnl : nm.length ≤ 6) (hq : p ≤ xs.length) (hW : W.length ≤ p) (hc : ptC (p_tail PC xs par dep lab nm W p att ov) p ≤ c) (hs : ptS (p_tail PC xs par dep lab nm W p att ov) p ≤ s)
    (kok : ∀ q W1 ov1, p_tail PC xs par dep lab nm W p att ov = .inr (q, W1, ov1) → ∀ (h1 : hm_T) (z1 : hz_T) (d1 : Nat) (as1 : List Nat) (sv1 : Nat) (ws1 : List Nat), rRD dA h0 z0 sv0 op y tt xs rd sc eNo h1 z1 q (-1) d1 as1 sv1 ws1 (tmI ov1) W1 → as1.length = W1.length → aext as as1 → K 1 h1 z1)
    (kerr : ∀ e, p_tail PC xs par dep lab nm W p att ov = .inl e → rEr dA h0 z0 sv0 y tt rd sc e (K 0)) : w_MarkupReader_readElement_70 dA P y K (some x) c s h z := by
  have Pe0 := Pe
  obtain ⟨D, ⟨t, e2, c1, zt, ze⟩, j, el, ra, hL, nQ, hal, ha⟩ := Pe
  have hlen := D.2.1.2.1
  have hcx := D.2.1.2.2
  have ep : p_tail PC xs par dep lab nm W p att ov = if xs.getD p 0 = 47 then (if xs.getD (p + 1) 0 = 62 then .inr (p + 2, W ++ [(1, par, dep, lab, att, nm)], ov || decide (3 < att.length)) else .inl (p + 1)) else if xs.getD p 0 ≠ 62 then .inl p else match PC W.length (dep + 1) lab (p + 1) (W ++ [(1, par, dep, lab, att, nm)]) (ov || decide (3 < att.length)) with
    | .inl e => .inl e
    | .inr (q2, W2, ov3) => match p_end xs nm (q2 + 2) with
      | .inl e => .inl e
      | .inr q3 => .inr (q3, W2, ov3) := rfl
  have fin : ∀ w0 : Int32, (w0 = 0 ∨ w0 = 1) → w0 = tmI (ov || decide (3 < att.length)) → w_MarkupReader_readElement_94 dA P y K (some x) w0 c s h z := by
    intro w0 hw0 hw
    unfold w_MarkupReader_readElement_94
    refine ⟨hw0, cg_p_of D.1 (show 5 < 6 by decide) ?_⟩
    have M : ∀ e, hm_mo h (hm_u h y e) (fun b => b = y) := fun e => hm_mo.u rfl
    have Dn := Pe0.fin (h1 := hm_u h y (r6c tt p (-1) rd sc w0)) (p1 := p) (tm1 := w0) hl hp hm_s (M _) hw0
    have lenA : (as ++ [x]).length = (W ++ [((1, par, dep, lab, att, nm) : wn)]).length := by rw [List.length_append, List.length_append, hl]; rfl
    have axA : aext as (as ++ [x]) := fun i hi => getD_app_l hi
    refine cg_I_of Dn.1 rfl (cg_c_of Dn.1 (rl_seen Dn.1 Dn.2.1 (by omega) ?_))
    have h1l := getD_lt hcx p
    by_cases a1 : xs.getD p 0 = 47
    · rw [if_pos a1] at ep
      have := getD_pos a1 (by decide)
      refine if_yes (by rw [a1]; rfl) (cg_I_of Dn.1 rfl (cg_p_of Dn.1 (show 1 < 6 by decide) ?_))
      rw [nI_1]
      have Dm := Dn.mo1 (h1 := hm_u (hm_u h y (r6c tt p (-1) rd sc w0)) y (r6c tt (p + 1) (-1) rd sc w0)) (p1 := p + 1) (tm1 := w0) hm_s (hm_mo.u rfl) hz_mo.refl hw0
      refine cg_c_of Dm.1 (rl_take' (c := 62) Dm (by omega) (by decide) (fun g h2 D2 => ?_) (fun g h2 z2 sv2 p2 tm2 ws2 b1 b2 b3 b4 b5 => ?_))
      · rw [if_pos g] at ep
        exact ⟨Or.inr rfl, kok _ _ _ ep h2 z d (as ++ [x]) sv ws (by rw [← hw]; exact D2) lenA axA⟩
      · rw [if_neg g] at ep
        exact ⟨Or.inl rfl, kerr _ ep h2 z2 sv2 p2 tm2 ws2 b1 b2 b3 b4 b5⟩
    · rw [if_neg a1] at ep
      refine if_no (fun w => a1 ((nI_eq (b := 47) (by omega) (by decide)).mp w)) (cg_c_of Dn.1 (rl_take' (c := 62) Dn (by omega) (by decide) (fun g h2 D2 => ?_) (fun g h2 z2 sv2 p2 tm2 ws2 b1 b2 b3 b4 b5 => ?_)))
      · rw [if_neg (fun w => w g)] at ep
        have hpl := getD_pos g (by decide)
        have I := hC W.length (dep + 1) lab (p + 1) (W ++ [(1, par, dep, lab, att, nm)]) (ov || decide (3 < att.length)) (by omega) (fun p => ⟨by omega, by omega, by omega⟩)
        have eW : (W ++ [((1, par, dep, lab, att, nm) : wn)]).getD W.length wn0 = (1, par, dep, lab, att, nm) := by have := getD_wn_r (W := W) (W2 := []) (w := (1, par, dep, lab, att, nm)); rwa [List.append_nil] at this
        have room : pccC (PC W.length (dep + 1) lab (p + 1) (W ++ [(1, par, dep, lab, att, nm)]) (ov || decide (3 < att.length))) (p + 1) ≤ c ∧ pccS (PC W.length (dep + 1) lab (p + 1) (W ++ [(1, par, dep, lab, att, nm)]) (ov || decide (3 < att.length))) (p + 1) ≤ s := by
          cases e2 : PC W.length (dep + 1) lab (p + 1) (W ++ [(1, par, dep, lab, att, nm)]) (ov || decide (3 < att.length)) with
          | inl e9 =>
            rw [e2] at ep
            rw [ep] at hc hs
            exact tl_room1 (I.1 _ e2).1 hc hs
          | inr x2 =>
            obtain ⟨q2, W2, ov3⟩ := x2
            obtain ⟨d1, d2, W4, d3, d4⟩ := I.2 _ _ _ e2
            have T := p_end_le (xs := xs) nm (q2 + 2) hnn d2
            rw [e2] at ep
            simp only [] at ep
            cases e3 : p_end xs nm (q2 + 2) with
            | inl e9 =>
              rw [e3] at ep
              rw [ep] at hc hs
              have := T.1 _ e3
              have R := tl_room2 (q := p) (q2 := q2) (e := e9) (c := c) (s := s) (by omega) (Nat.le_trans (Nat.le_add_right _ 40) hc) (Nat.le_trans (Nat.le_add_right _ 2600) hs)
              exact R
            | inr q3 =>
              rw [e3] at ep
              rw [ep] at hc hs
              have := T.2 _ e3
              exact tl_room2 (by omega) hc hs
        rw [hw] at D2
        refine if_no (by decide) (cg_c_of D2.1 (cg_rm_of (c1 := c) (s1 := s) (Nat.le_refl _) (Nat.le_refl _) ?_))
        have hx : some x = some ((as ++ [x]).getD W.length 0) := by rw [← hl, getD_app_r]
        rw [hx]
        refine hP h2 z (p + 1) d (as ++ [x]) sv ws _ _ W.length dep lab c s _ D2 lenA (by rw [List.length_append]; simp) (by rw [List.length_append]; simp; omega) (by omega) (by rw [eW]) (by rw [eW]) hll g2 (by omega) room.1 room.2 (fun q2 W2 ov3 e h3 z3 d3 as3 sv3 ws3 D3 l3 a3 => ?_) (fun e9 e h3 z3 sv3 p3 tm3 ws3 b1 b2 b3 b4 b5 => ?_)
        · rw [e] at ep
          simp only [] at ep
          obtain ⟨d1, d2, W4, d3', d4⟩ := I.2 _ _ _ e
          refine if_no (by decide) (cg_c_of D3.1 ?_)
          have hj : W.length < W2.length := by rw [d3', List.length_append, List.length_append]; simp; omega
          have N3 := (D3.2.2.2.2.2.1 W.length hj).1
          rw [getD_ax hl a3, d3', getD_wn_r] at N3
          obtain ⟨l9, aq9, tx9, kt9, k1, _, _, _, _, _, _, ⟨u9, k2⟩, _⟩ := N3
          have kxy : x ≠ y := hm_ne k1 D3.1 rfl
          have e5 : (as ++ [x]).getD W.length 0 = x := by rw [← hl, getD_app_r]
          rw [e5]
          unfold w_MarkupReader_readEndTag
          refine cg_I_of D3.1 rfl (cg_p_of D3.1 (show 1 < 6 by decide) ?_)
          have e22 : nI q2 + 2 = nI (q2 + 2) := by rw [show (2 : Int32) = nI 2 from rfl, nI_add]
          rw [e22]
          have M4 : ∀ e, hm_mo h3 (hm_u h3 y e) (fun b => b = y) := fun e => hm_mo.u rfl
          refine rl_endTagL (x := x) D3.2.1 (tx := tx9) (nm := nm) rfl k2 (by omega) hcn kxy nm.length mF 0 (q2 + 2) _ (by omega) (by unfold mF; omega) (by omega) hm_s (M4 _ _ _ k1 kxy) (fun o1 o2 h5 R5 M5 => ?_) (fun e9 ⟨k, o1, o2, o3, o4⟩ h5 p5 R5 M5 => ?_)
          · have o1' : ∀ k, k < nm.length → xs.getD (q2 + 2 + k) 0 = nm.getD k 0 := fun k hk => by have := o1 k hk; rwa [Nat.zero_add] at this
            rw [p_end_ok nm (q2 + 2) o1' o2] at ep
            simp only [] at ep
            exact if_no (by decide) (kok _ _ _ ep h5 z3 d3 as3 sv3 ws3 (D3.mo1 R5 ((M4 _).trans M5) hz_mo.refl (tmI_01 _)) l3 (fun i hi => (a3 i (by rw [List.length_append]; omega)).trans (getD_app_l hi)))
          · have o3' : ∀ j, j < k → xs.getD (q2 + 2 + j) 0 = nm.getD j 0 := fun j hj => by have := o3 j hj; rwa [Nat.zero_add] at this
            rw [Nat.zero_add] at o4
            rw [p_end_er nm (q2 + 2) k o1 o3' o4] at ep
            simp only [] at ep
            exact if_yes rfl ((D3.mo1 R5 ((M4 _).trans M5) hz_mo.refl (tmI_01 _)).er (by rw [o2]) (kerr _ ep))
        · rw [e] at ep
          simp only [] at ep
          exact if_yes rfl (kerr _ ep h3 z3 sv3 p3 tm3 ws3 b1 b2 b3 b4 b5)
      · rw [if_pos g] at ep
        exact if_yes rfl (kerr _ ep h2 z2 sv2 p2 tm2 ws2 b1 b2 b3 b4 b5)
  obtain ⟨mo, j1, j2⟩ := id j
  unfold w_MarkupReader_readElement_70 w_MarkupReader_readElement_89
  refine cg_I_of D.1 rfl ?_
  cases ov with
  | true => exact if_no (by decide) (fin 1 (Or.inr rfl) (by rw [Bool.true_or]; rfl))
  | false =>
    refine if_yes rfl (cg_d_of (cg_R_ref c1 rfl (cg_d_of ⟨ad, aas.length, mo, j1, ?_⟩)))
    rw [el]
    by_cases w : att.length ≤ 3
    · exact if_yes (nI_le (b := 3) w (by decide)) (fin 0 (Or.inl rfl) (by rw [Bool.false_or, decide_eq_false (by omega)]; rfl))
    · exact if_no (nI_ge (a := 3) (by omega) (by omega)) (fin 1 (Or.inr rfl) (by rw [Bool.false_or, decide_eq_true (by omega)]; rfl))
end PL14
-- reading: elements, content, all of it
theorem el_room {p p1 tl e c s : Nat} (h1 : p + 2 ≤ p1) (h2 : p1 ≤ tl) (h3 : tl ≤ e) (hc : 40 * (e - p) + 40 ≤ c) (hs : 2600 * (e - p) + 2600 ≤ s) : 3 ≤ c ∧ 212 ≤ s ∧ 2 ≤ c - 3 ∧ 146 ≤ s - 212 ∧ 40 * (tl - p1) + 20 ≤ c - 3 - 2 ∧ 2600 * (tl - p1) + 1600 ≤ s - 212 - 146 := by omega
theorem el_room2 {p p1 tl e c s : Nat} (h1 : p + 2 ≤ p1) (h2 : p1 ≤ tl) (h3 : tl + 1 ≤ e) (hc : 40 * (e - p) - 2 ≤ c) (hs : 2600 * (e - p) - 40 ≤ s) : 3 ≤ c ∧ 212 ≤ s ∧ 2 ≤ c - 3 ∧ 146 ≤ s - 212 ∧ 40 * (tl - p1) + 20 ≤ c - 3 - 2 ∧ 2600 * (tl - p1) + 1600 ≤ s - 212 - 146 := by omega
theorem el_room3 {p p1 q e c c1 s s1 : Nat} (h1 : p + 2 ≤ p1) (h2 : p1 ≤ q) (h3 : q ≤ e) (hc : 40 * (e - p) + 40 ≤ c) (hs : 2600 * (e - p) + 2600 ≤ s) (a : c - 3 - 2 ≤ c1 + 40 * (q - p1)) (b : s - 212 - 146 ≤ s1 + 2600 * (q - p1)) : 40 * (e - q) + 40 ≤ c1 ∧ 2600 * (e - q) + 2600 ≤ s1 := by omega
theorem el_room4 {p p1 q e c c1 s s1 : Nat} (h1 : p + 2 ≤ p1) (h2 : p1 ≤ q) (h3 : q + 1 ≤ e) (hc : 40 * (e - p) - 2 ≤ c) (hs : 2600 * (e - p) - 40 ≤ s) (a : c - 3 - 2 ≤ c1 + 40 * (q - p1)) (b : s - 212 - 146 ≤ s1 + 2600 * (q - p1)) : 40 * (e - q) ≤ c1 ∧ 2600 * (e - q) ≤ s1 := by omega
section PL15
variable {dA : Nat → ClassId} {h0 : hm_T} {z0 : hz_T} {sv0 : Nat} {op : Option Nat} {od y tt : Nat} {xs : List Nat} {rd sc : Nat} {ws0 : List Nat}
theorem rl_elem (J0 : jb dA h0 sc sv0 ws0) (O : rOp h0 op od) {P : Nat → Option Nat → Nat → Nat → (Int32 → hm_T → hz_T → Prop) → hm_T → hz_T → Prop} {PC : Nat → Nat → List Int32 → Nat → List wn → Bool → pR} {N : Nat} (hP : rImpC dA h0 z0 sv0 op y tt xs rd sc P PC N) (hC : pOKc xs PC (fun _ dep => 1 ≤ dep ∧ dep ≤ 6 ∧ 6 ≤ N + dep)) : rImp dA h0 z0 sv0 op od y tt xs rd sc (w_MarkupReader_readElement dA P) (p_elem PC xs) (fun p dep => xs.getD p 0 = 60 ∧ a_small (xs.getD (p + 1) 0) = true ∧ dep ≤ 5 ∧ 6 ≤ N + 1 + dep) := by
  intro h z p d as sv ws ov W par l lab c s K D hl hp hL nl fl hll hW hpx hG hc hs kok kerr
  obtain ⟨g0, g1, g2, g3⟩ := hG
  have hlen := D.2.1.2.1
  have hcx := D.2.1.2.2
  have l1 : p + 1 < xs.length := getD_pos rfl (a_small_ne g1)
  have hla := a_let_le (xs := xs) (p := p + 1) (by omega)
  have hn := a_let_pos g1
  have hn6 := (a_let_small (xs := xs) (p := p + 1)).1
  have T := p_atts_le (xs := xs) 130 (p + 1 + a_let xs (p + 1)) [] ov (by omega)
  have ep := p_elem_tail (PC := PC) (xs := xs) (par := par) (dep := rDep W od par) (lab := lab) (p := p) (W := W) (ov := ov)
  generalize hnm : (xs.drop (p + 1)).take (a_let xs (p + 1)) = nm at *
  have hnn : ∀ c ∈ nm, c ≠ 0 := fun c hc => a_small_ne (a_name_ne (xs := xs) (p := p + 1) c (by rw [hnm]; exact hc))
  have hcn : ∀ c ∈ nm, c < 128 := fun c hc => hcx c (List.mem_of_mem_drop (List.mem_of_mem_take (by rw [hnm]; exact hc)))
  have hnl : nm.length ≤ 6 := by rw [← hnm, List.length_take]; omega
  have room : 3 ≤ c ∧ 212 ≤ s ∧ 2 ≤ c - 3 ∧ 146 ≤ s - 212 ∧ 40 * (tE (p_atts xs 130 (p + 1 + a_let xs (p + 1)) [] ov) - (p + 1 + a_let xs (p + 1))) + 20 ≤ c - 3 - 2 ∧ 2600 * (tE (p_atts xs 130 (p + 1 + a_let xs (p + 1)) [] ov) - (p + 1 + a_let xs (p + 1))) + 1600 ≤ s - 212 - 146 := by
    cases e : p_atts xs 130 (p + 1 + a_let xs (p + 1)) [] ov with
    | inl e9 =>
      rw [e] at ep
      rw [ep] at hc hs
      exact el_room (p := p) (e := e9) (by omega) (T.1 _ e).1 (Nat.le_refl _) hc hs
    | inr x9 =>
      obtain ⟨q, att, ov1⟩ := x9
      rw [e] at ep
      simp only [] at ep
      have L := p_tail_le (par := par) (lab := lab) (nm := nm) (W := W) (q := q) (att := att) (ov1 := ov1) hC g2 g3 hnn (T.2 _ _ _ e).2
      cases e2 : p_tail PC xs par (rDep W od par) lab nm W q att ov1 with
      | inl e9 =>
        rw [e2] at ep
        rw [ep] at hc hs
        exact el_room (p := p) (e := e9) (by omega) (T.2 _ _ _ e).1 (L.1 _ e2).1 hc hs
      | inr x8 =>
        obtain ⟨q3, W3, ov3⟩ := x8
        rw [e2] at ep
        rw [ep] at hc hs
        exact el_room2 (p := p) (e := q3) (by omega) (T.2 _ _ _ e).1 (L.2 _ _ _ e2).1 hc hs
  unfold w_MarkupReader_readElement
  refine cg_I_of D.1 rfl (cg_p_of D.1 (show 1 < 6 by decide) ?_)
  rw [nI_1]
  have M : ∀ e, hm_mo h (hm_u h y e) (fun b => b = y) := fun e => hm_mo.u rfl
  have D1 := D.mo1 (h1 := hm_u h y (r6c tt (p + 1) (-1) rd sc (tmI ov))) (p1 := p + 1) (tm1 := tmI ov) hm_s (M _) hz_mo.refl (tmI_01 ov)
  refine cg_c_of D1.1 (cg_rm_of (c1 := 3) (s1 := 212) room.1 room.2.1 (rl_make' (kd := 1) D1 J0 O hp hl (by omega) (hL.mo (M _) (fun w => nl (Or.inl w))) nl fl (Nat.le_refl _) (Nat.le_refl _) (fun h6 x aq e1 e2 d1 D6 c6 z1 z2 j6 fx fa nQ L6 => ?_)))
  have ne : (as ++ [x]) ≠ [] := by simp
  have xr : x ≠ rd := fun w => nQ x (Or.inl rfl) (Or.inr (Or.inl w))
  have xd : x ≠ d1 := fun w => nQ x (Or.inl rfl) (Or.inr (Or.inr (Or.inl ⟨w, ne⟩)))
  refine cg_c_of D6.1 (cg_rm_of (c1 := 2) (s1 := 146) room.2.2.1 room.2.2.2.1 (rl_name D6.1 D6.2.1 (by omega) (Nat.le_refl _) (Nat.le_refl _) (fun h7 z7 t7 R7 M7 Z7 k7 => ?_)))
  rw [if_neg hn] at R7
  have ny : ∀ b, (b = x ∨ b = aq ∨ b = l) → ¬ b = y := fun b w k => nQ b w (Or.inl k)
  have D7 := D6.mo1 R7 M7 Z7 (tmI_01 ov)
  have c7 := M7 _ _ c6 (ny x (Or.inl rfl))
  refine cg_d_of (cg_p_of c7 (show 7 < 9 by decide) ?_)
  have D8 := D7.text (e := .inr (8, [.int (nI 1), va_rf (rPar op (as ++ [x]) (0, par, 0, [], [], [])), .int (nI (rDep W od par)), .ref l, .ref aq, .int (-1), .int (-1), .ref t7, .ref e2])) c7 fx xr (fun _ => xd)
  have M8 : ∀ e, hm_mo h7 (hm_u h7 x e) (fun b => b = x) := fun e => hm_mo.u rfl
  obtain ⟨mo6, q1, _⟩ := id j6
  obtain ⟨lf, L1, L2⟩ := id L6
  have jl8 := fun e => (j6.mo M7 (ny aq (Or.inr (Or.inl rfl))) (fun w => absurd rfl w)).mo (M8 e) (hm_ne q1 c6 rfl) (fun w => absurd rfl w)
  have L8 : ∀ e, cp_lab dA (hm_u h7 x e) l lab := fun e => (L6.mo M7 (ny l (Or.inr (Or.inr rfl)))).mo (M8 e) (hm_ne L1 c6 rfl)
  have D9 := D8.own (E2 := fun b => b = x ∨ b = aq ∨ (b = dA 99 ∧ ([] : List Nat) ≠ [])) (Y := fun _ => False) D8.1 D8.2.2.1 (Or.inl rfl) hm_mo.refl (fun b w => w.elim) hz_mo.refl (tmI_01 ov) (fun b e hb w => w.elim (fun w => Or.inl (Or.inl w)) (fun w => w.elim (fun w => Or.inl (Or.inr w)) (fun w => absurd rfl w.2)))
  have Pe : rPe dA h0 z0 sv0 op y tt xs rd sc par (rDep W od par) l lab x aq nm (hm_u h7 x (.inr (8, [.int (nI 1), va_rf (rPar op (as ++ [x]) (0, par, 0, [], [], [])), .int (nI (rDep W od par)), .ref l, .ref aq, .int (-1), .int (-1), .ref t7, .ref e2]))) z7 (p + 1 + a_let xs (p + 1)) d1 as sv ws ov W (dA 99) [] [] := by
    refine ⟨D9, ⟨t7, e2, hm_s, by rw [← hnm]; exact k7, by obtain ⟨u, w⟩ := z2; exact ⟨u, Z7 _ _ w⟩⟩, jl8 _, rfl, fun i hi => absurd hi (Nat.not_lt_zero _), L8 _, fun b w => ?_, Nat.zero_le _, fun q hq => by cases hq⟩
    rcases w with w | w | w | w | ⟨i, hi, w⟩
    · exact ⟨nQ b (Or.inl w), by rw [w]; exact fx⟩
    · exact ⟨nQ b (Or.inr (Or.inl w)), by rw [w]; exact fa⟩
    · exact ⟨nQ b (Or.inr (Or.inr w)), by rw [w]; exact fl⟩
    · exact absurd rfl w.2
    · exact absurd hi (Nat.not_lt_zero _)
  refine rl_atts 130 mF 0 (p + 1 + a_let xs (p + 1)) _ z7 sv ws ov (dA 99) [] [] (c - 3 - 2) (s - 212 - 146) Pe (by omega) (by unfold mF; omega) (by unfold mF; omega) (Nat.zero_le _) (by omega) room.2.2.2.2.1 room.2.2.2.2.2 (fun q att ov1 e h9 z9 sv9 ws9 ad9 aas9 c9 s9 Pe9 hc9 hs9 => ?_) (fun e9 e => ?_)
  · rw [e] at ep
    simp only [] at ep
    have Tq := T.2 _ _ _ e
    rw [ep] at hc hs kok kerr
    have L := p_tail_le (par := par) (lab := lab) (nm := nm) (W := W) (q := q) (att := att) (ov1 := ov1) hC g2 g3 hnn Tq.2
    have room2 : ptC (p_tail PC xs par (rDep W od par) lab nm W q att ov1) q ≤ c9 ∧ ptS (p_tail PC xs par (rDep W od par) lab nm W q att ov1) q ≤ s9 := by
      cases e2 : p_tail PC xs par (rDep W od par) lab nm W q att ov1 with
      | inl e9 =>
        rw [e2] at hc hs
        exact el_room3 (p := p) (p1 := p + 1 + a_let xs (p + 1)) (by omega) Tq.1 (L.1 _ e2).1 hc hs hc9 hs9
      | inr x8 =>
        obtain ⟨q3, W3, ov3⟩ := x8
        rw [e2] at hc hs
        exact el_room4 (p := p) (p1 := p + 1 + a_let xs (p + 1)) (by omega) Tq.1 (L.2 _ _ _ e2).1 hc hs hc9 hs9
    exact rl_elem70 hP hC Pe9 hl hp g2 g3 hll hnn hcn hnl Tq.2 (by omega) room2.1 room2.2 kok kerr
  · rw [e] at ep
    exact kerr e9 ep
theorem ct_room1 {p e c s : Nat} (h : p ≤ e) (hc : 40 * (e - p) + 41 ≤ c) (hs : 2600 * (e - p) + 2640 ≤ s) : 1 ≤ c ∧ 31 ≤ s ∧ 40 * (e - p) + 40 ≤ c - 1 ∧ 2600 * (e - p) + 2600 ≤ s - 31 := by omega
theorem ct_room2 {p q e c s : Nat} (h : p < q) (h2 : q ≤ e) (hc : 40 * (e - p) + 41 ≤ c) (hs : 2600 * (e - p) + 2640 ≤ s) : 1 ≤ c ∧ 31 ≤ s ∧ 40 * (q - p) - 2 ≤ c - 1 ∧ 2600 * (q - p) - 40 ≤ s - 31 ∧ 40 * (e - q) + 41 ≤ c - 1 - (40 * (q - p) - 2) ∧ 2600 * (e - q) + 2640 ≤ s - 31 - (2600 * (q - p) - 40) := by omega
theorem ct_room3 {p q e c s : Nat} (h : p < q) (h2 : q ≤ e) (hc : 40 * (e - p) ≤ c) (hs : 2600 * (e - p) ≤ s) : 1 ≤ c ∧ 31 ≤ s ∧ 40 * (q - p) - 2 ≤ c - 1 ∧ 2600 * (q - p) - 40 ≤ s - 31 ∧ 40 * (e - q) ≤ c - 1 - (40 * (q - p) - 2) ∧ 2600 * (e - q) ≤ s - 31 - (2600 * (q - p) - 40) := by omega
theorem getD_wn_l {W W2 : List wn} {j : Nat} (h : j < W.length) : (W ++ W2).getD j wn0 = W.getD j wn0 := by
  rw [List.getD_eq_getElem?_getD, List.getElem?_append_left h, ← List.getD_eq_getElem?_getD]
theorem rl_contL {P : Nat → Option Nat → Option Nat → Nat → Nat → (Int32 → hm_T → hz_T → Prop) → hm_T → hz_T → Prop} {PP : Option Nat → Nat → List Int32 → Nat → List wn → Bool → pR} {N : Nat} (hP : rImp dA h0 z0 sv0 op od y tt xs rd sc P PP (fun _ dep => 1 ≤ dep ∧ dep ≤ 6 ∧ 6 ≤ N + dep)) (hO : pOK xs PP (fun _ dep => 1 ≤ dep ∧ dep ≤ 6 ∧ 6 ≤ N + dep)) {K : Int32 → hm_T → hz_T → Prop} {j dep x : Nat} {lab : List Int32} (hll : lab.length ≤ 18 + dep) (g2 : dep ≤ 5) (g3 : 6 ≤ N + (dep + 1)) : ∀ (f fu k p : Nat) (h : hm_T) (z : hz_T) (d : Nat) (as : List Nat) (sv : Nat) (ws : List Nat) (ov : Bool) (W : List wn) (c s : Nat), rRD dA h0 z0 sv0 op y tt xs rd sc eNo h z p (-1) d as sv ws (tmI ov) W → as.length = W.length → j < W.length → W.length ≤ p → p ≤ xs.length → (W.getD j wn0).2.2.1 = dep → (W.getD j wn0).2.2.2.1 = lab → as.getD j 0 = x → xs.length + 1 ≤ p + f → xs.length + 1 ≤ p + fu → 0 < fu → k < p → pccC (p_cont PP xs f k j (dep + 1) lab p W ov) p ≤ c → pccS (p_cont PP xs f k j (dep + 1) lab p W ov) p ≤ s →
    (∀ q W1 ov1, p_cont PP xs f k j (dep + 1) lab p W ov = .inr (q, W1, ov1) → ∀ (h1 : hm_T) (z1 : hz_T) (d1 : Nat) (as1 : List Nat) (sv1 : Nat) (ws1 : List Nat), rRD dA h0 z0 sv0 op y tt xs rd sc eNo h1 z1 q (-1) d1 as1 sv1 ws1 (tmI ov1) W1 → as1.length = W1.length → aext as as1 → K 1 h1 z1) →
    (∀ e, p_cont PP xs f k j (dep + 1) lab p W ov = .inl e → rEr dA h0 z0 sv0 y tt rd sc e (K 0)) → w_MarkupReader_readContent_2 dA P y K fu (some x) (nI k) c s h z := by
  intro f
  induction f with
  | zero => intro fu k p h z d as sv ws ov W c s D a1 a2 a3 a4; omega
  | succ f ih =>
    intro fu k p h z d as sv ws ov W c s D hl hj hW hp eD eL eX f1 f2 f3 hk hc hs kok kerr
    obtain ⟨fu, rfl⟩ : ∃ f, fu = f + 1 := ⟨fu - 1, by omega⟩
    have hlen := D.2.1.2.1
    have hcx := D.2.1.2.2
    obtain ⟨⟨u, hu⟩, _, _⟩ := id D.2.1
    have ep : p_cont PP xs (f + 1) k j (dep + 1) lab p W ov = if p = xs.length then .inl p else if xs.getD p 0 = 60 ∧ xs.getD (p + 1) 0 = 47 then .inr (p, W, ov) else match PP (some j) (dep + 1) (lab ++ [2 * nI k + 1]) p W ov with
      | .inl e => .inl e
      | .inr (q, W1, ov1) => p_cont PP xs f (k + 1) j (dep + 1) lab q W1 ov1 := rfl
    unfold w_MarkupReader_readContent_2
    refine cg_R_ref D.1 rfl (cg_d_of ⟨u, xs, hu, if_no (nI_ge (by omega) (by omega)) (cg_I_of D.1 rfl (cg_R_ref D.1 rfl (cg_d_of ⟨u, xs, hu, ?_⟩)))⟩)
    by_cases a0 : p = xs.length
    · rw [if_pos a0] at ep
      refine if_yes (by rw [a0]) (cg_I_of D.1 rfl (cg_c_of D.1 (rl_fail' D (fun h1 z1 sv1 p1 tm1 ws1 b1 b2 b3 b4 b5 => ⟨Or.inl rfl, kerr _ ep h1 z1 sv1 p1 tm1 ws1 b1 b2 b3 b4 b5⟩))))
    rw [if_neg a0] at ep
    refine if_no (fun w => a0 ((nI_eq (by omega) (by omega)).mp w)) (cg_I_of D.1 rfl (cg_c_of D.1 (rl_seen D.1 D.2.1 (by omega) ?_)))
    have h1l := getD_lt hcx p
    have h2l := getD_lt hcx (p + 1)
    have go : ¬ (xs.getD p 0 = 60 ∧ xs.getD (p + 1) 0 = 47) → w_MarkupReader_readContent_66 dA P y K (w_MarkupReader_readContent_2 dA P y K fu) (some x) (nI k) c s h z := fun w => by
      rw [if_neg w] at ep
      have L := hO (some j) (dep + 1) (lab ++ [2 * nI k + 1]) p W ov (by omega) ⟨by omega, by omega, by omega⟩
      have Nj := (D.2.2.2.2.2.1 j hj).1
      rw [eX] at Nj
      obtain ⟨l9, aq9, tx9, kt9, k1, n1, _, k2, n2, _⟩ := Nj
      rw [eL] at k2
      have eDep : rDep W od (some j) = dep + 1 := by show (W.getD j wn0).2.2.1 + 1 = dep + 1; rw [eD]
      have ePar : rPar op as (0, some j, 0, [], [], []) = some x := by show some (as.getD j 0) = some x; rw [eX]
      have step : ∀ (c1 s1 : Nat) (h1 : hm_T) (l1 : Nat) (K2 : Int32 → hm_T → hz_T → Prop), cp_lab dA h1 l1 (lab ++ [2 * nI k + 1]) → h l1 = none → hm_mo h h1 (fun _ => False) → pcC (PP (some j) (dep + 1) (lab ++ [2 * nI k + 1]) p W ov) p ≤ c1 → pcS (PP (some j) (dep + 1) (lab ++ [2 * nI k + 1]) p W ov) p ≤ s1 → (∀ q W1 ov1, PP (some j) (dep + 1) (lab ++ [2 * nI k + 1]) p W ov = .inr (q, W1, ov1) → ∀ (h1 : hm_T) (z1 : hz_T) (d1 : Nat) (as1 : List Nat) (sv1 : Nat) (ws1 : List Nat), rRD dA h0 z0 sv0 op y tt xs rd sc eNo h1 z1 q (-1) d1 as1 sv1 ws1 (tmI ov1) W1 → as1.length = W1.length → aext as as1 → K2 1 h1 z1) → (∀ e, PP (some j) (dep + 1) (lab ++ [2 * nI k + 1]) p W ov = .inl e → rEr dA h0 z0 sv0 y tt rd sc e (K2 0)) → P y (some x) (some l1) c1 s1 K2 h1 z := fun c1 s1 h1 l1 K2 L1 hl1 M1 hc1 hs1 ko ke => by
        have D1 := D.mo1 (h1 := h1) (p1 := p) (tm1 := tmI ov) (M1 _ _ D.1 id) (M1.weak (fun b w => w.elim)) hz_mo.refl (tmI_01 ov)
        have D1' := D
        obtain ⟨E1, E2, E3, E4, E5, E6, E7, E8, E9, E10, E11, E12, E13⟩ := D1'
        obtain ⟨mb, nb, fb, b1, b2, br⟩ := id E3
        obtain ⟨mo4, r1, r2⟩ := id E4
        have := hP h1 z p d as sv ws ov W (some j) l1 (lab ++ [2 * nI k + 1]) c1 s1 K2 D1 hl (fun i e => by cases e; exact hj) L1 (fun w => by
          rcases w with w | w | w | w | w | w
          · rw [w, E1] at hl1; cases hl1
          · rw [w, r1] at hl1; cases hl1
          · rcases r2 with k | ⟨_, n, f, c3, _⟩
            · exact w.2 k.1
            · rw [w.1, c3] at hl1; cases hl1
          · rw [w, b1] at hl1; cases hl1
          · rw [w, b2] at hl1; cases hl1
          · exact w) (D.fr hl1) (by rw [eDep, List.length_append]; simp; omega) hW (by omega) (by rw [eDep]; exact ⟨by omega, by omega, by omega⟩) (by rw [eDep]; exact hc1) (by rw [eDep]; exact hs1) (by rw [eDep]; exact ko) (by rw [eDep]; exact ke)
        rwa [ePar] at this
      unfold w_MarkupReader_readContent_66
      cases e : PP (some j) (dep + 1) (lab ++ [2 * nI k + 1]) p W ov with
      | inl e9 =>
        rw [e] at ep
        rw [ep] at hc hs
        have R := ct_room1 (L.1 _ e).1 hc hs
        refine cg_d_of (cg_c_of k1 (cg_rm_of (c1 := 1) (s1 := 31) R.1 R.2.1 (rl_child k1 rfl k2 (by omega) (Nat.le_refl _) (Nat.le_refl _) (fun h1 l1 L1 hl1 M1 => cg_c_of (M1 _ _ D.1 id) (cg_rm_of (c1 := c - 1) (s1 := s - 31) (Nat.le_refl _) (Nat.le_refl _) (step _ _ h1 l1 _ L1 hl1 M1 (by rw [e]; exact R.2.2.1) (by rw [e]; exact R.2.2.2) (fun q W1 ov1 w => ?_) (fun e8 w h2 z2 sv2 p2 tm2 ws2 b1 b2 b3 b4 b5 => ?_)))))))
        · rw [e] at w; cases w
        · rw [e] at w; cases w
          exact if_yes rfl (kerr _ ep h2 z2 sv2 p2 tm2 ws2 b1 b2 b3 b4 b5)
      | inr x9 =>
        obtain ⟨q, W1, ov1⟩ := x9
        rw [e] at ep
        simp only [] at ep
        rw [ep] at hc hs kok kerr
        obtain ⟨o1, o2, W2, o3, o4⟩ := L.2 _ _ _ e
        have I := p_cont_le hO f (k + 1) j (dep + 1) lab q W1 ov1 o2 (fun p => ⟨by omega, by omega, by omega⟩)
        have R : 1 ≤ c ∧ 31 ≤ s ∧ 40 * (q - p) - 2 ≤ c - 1 ∧ 2600 * (q - p) - 40 ≤ s - 31 ∧ pccC (p_cont PP xs f (k + 1) j (dep + 1) lab q W1 ov1) q ≤ c - 1 - (40 * (q - p) - 2) ∧ pccS (p_cont PP xs f (k + 1) j (dep + 1) lab q W1 ov1) q ≤ s - 31 - (2600 * (q - p) - 40) := by
          cases e5 : p_cont PP xs f (k + 1) j (dep + 1) lab q W1 ov1 with
          | inl e9 => rw [e5] at hc hs; exact ct_room2 o1 (I.1 _ e5).1 hc hs
          | inr x7 => obtain ⟨q7, W7, ov7⟩ := x7; rw [e5] at hc hs; exact ct_room3 o1 (I.2 _ _ _ e5).1 hc hs
        refine cg_d_of (cg_c_of k1 (cg_rm_of (c1 := 1) (s1 := 31) R.1 R.2.1 (rl_child k1 rfl k2 (by omega) (Nat.le_refl _) (Nat.le_refl _) (fun h1 l1 L1 hl1 M1 => cg_c_of (M1 _ _ D.1 id) (cg_rm_of (c1 := 40 * (q - p) - 2) (s1 := 2600 * (q - p) - 40) R.2.2.1 R.2.2.2.1 (step _ _ h1 l1 _ L1 hl1 M1 (by rw [e]; exact Nat.le_refl _) (by rw [e]; exact Nat.le_refl _) (fun q2 W3 ov3 w h2 z2 d2 as2 sv2 ws2 D2 l2 a2 => ?_) (fun e8 w => ?_)))))))
        · rw [e] at w; cases w
          rw [nI_1]
          have hlW : W.length ≤ W1.length := by rw [o3, List.length_append]; omega
          have eW : W1.getD j wn0 = W.getD j wn0 := by rw [o3, getD_wn_l hj]
          exact if_no (by decide) (ih fu (k + 1) q h2 z2 d2 as2 sv2 ws2 ov1 W1 _ _ D2 l2 (by omega) (by rw [o3, List.length_append]; omega) o2 (by rw [eW]; exact eD) (by rw [eW]; exact eL) (by rw [a2 j (by omega)]; exact eX) (by omega) (by omega) (by omega) (by omega) R.2.2.2.2.1 R.2.2.2.2.2 (fun q4 W4 ov4 e4 h4 z4 d4 as4 sv4 ws4 D4 l4 a4 => kok q4 W4 ov4 e4 h4 z4 d4 as4 sv4 ws4 D4 l4 (fun i hi => (a4 i (by omega)).trans (a2 i hi))) kerr)
        · rw [e] at w; cases w
    by_cases a1 : xs.getD p 0 = 60
    · refine if_yes (by rw [a1]; rfl) (cg_I_of D.1 rfl (cg_c_of D.1 ?_))
      rw [nI_1]
      refine rl_seen D.1 D.2.1 (by omega) ?_
      by_cases a2 : xs.getD (p + 1) 0 = 47
      · rw [if_pos ⟨a1, a2⟩] at ep
        exact if_yes (by rw [a2]; rfl) (kok _ _ _ ep h z d as sv ws D hl (fun i hi => rfl))
      · exact if_no (fun w => a2 ((nI_eq (b := 47) (by omega) (by decide)).mp w)) (go (fun w => a2 w.2))
    · exact if_no (fun w => a1 ((nI_eq (b := 60) (by omega) (by decide)).mp w)) (go (fun w => a1 w.1))
theorem rl_cont {P : Nat → Option Nat → Option Nat → Nat → Nat → (Int32 → hm_T → hz_T → Prop) → hm_T → hz_T → Prop} {PP : Option Nat → Nat → List Int32 → Nat → List wn → Bool → pR} {N : Nat} (hP : rImp dA h0 z0 sv0 op od y tt xs rd sc P PP (fun _ dep => 1 ≤ dep ∧ dep ≤ 6 ∧ 6 ≤ N + dep)) (hO : pOK xs PP (fun _ dep => 1 ≤ dep ∧ dep ≤ 6 ∧ 6 ≤ N + dep)) : rImpC dA h0 z0 sv0 op y tt xs rd sc (w_MarkupReader_readContent dA P) (p_cont PP xs 130 0) N := by
  intro h z p d as sv ws ov W j dep lab c s K D hl hj hW hp eD eL hll g2 g3 hc hs kok kerr
  have hlen := D.2.1.2.1
  exact rl_contL hP hO hll g2 g3 130 mF 0 p h z d as sv ws ov W c s D hl hj hW hp eD eL rfl (by omega) (by unfold mF; omega) (by unfold mF; omega) (by omega) hc hs kok kerr
/-- elements, as deep as they may be -/
theorem rl_F (J0 : jb dA h0 sc sv0 ws0) (O : rOp h0 op od) : ∀ N, rImp dA h0 z0 sv0 op od y tt xs rd sc (w_F_MarkupReader_readElement dA N) (p_F xs N) (fun p dep => xs.getD p 0 = 60 ∧ a_small (xs.getD (p + 1) 0) = true ∧ dep ≤ 5 ∧ 6 ≤ N + dep) := by
  intro N
  induction N with
  | zero => intro h z p d as sv ws ov W par l lab c s K D hl hp hL nl fl hll hW hpx hG; exact absurd hG.2.2 (by omega)
  | succ N ih => exact rl_elem J0 O (rl_cont (rl_piece J0 O ih) (p_piece_le (p_F_le N))) (p_cont_le (p_piece_le (p_F_le N)) 130 0)
end PL15
