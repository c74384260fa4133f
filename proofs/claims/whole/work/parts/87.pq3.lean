-- reading a document, reading one node
def p_fin (xs : List Nat) (r : pR) : Nat ⊕ (List wn × Bool) := match r with
  | .inl e => .inl e
  | .inr (q, W, ov) => if q = xs.length then .inr (W, ov) else .inl q
def p_doc (xs : List Nat) : Nat ⊕ (List wn × Bool) := if xs.getD 0 0 ≠ 60 then .inl 0 else if a_small (xs.getD 1 0) = false then .inl 1 else p_fin xs (p_F xs 8 none 0 [1] 0 [] false)
def p_one (xs : List Nat) (dep : Nat) (lab : List Int32) : Nat ⊕ (List wn × Bool) := if xs.length = 0 then .inl 0 else p_fin xs (p_piece (p_F xs 8) xs none dep lab 0 [] false)
theorem pc_bound {r : pR} {L c s : Nat} (h1 : ∀ e, r = .inl e → e ≤ L) (h2 : ∀ q W ov, r = .inr (q, W, ov) → q ≤ L) (hc : 40 * L + 40 ≤ c) (hs : 2600 * L + 2600 ≤ s) : pcC r 0 ≤ c ∧ pcS r 0 ≤ s := by
  cases r with
  | inl e => have := h1 e rfl; exact ⟨by simp only [pcC]; omega, by simp only [pcS]; omega⟩
  | inr x => obtain ⟨q, W, ov⟩ := x; have := h2 q W ov rfl; exact ⟨by simp only [pcC]; omega, by simp only [pcS]; omega⟩
section PQ3
variable {dA : Nat → ClassId} {h0 : hm_T} {z0 : hz_T} {sv0 : Nat} {op : Option Nat} {od y tt : Nat} {xs : List Nat} {rd sc : Nat} {ws0 : List Nat} {h : hm_T} {z : hz_T} {d sv : Nat} {ws : List Nat}
theorem rl_end {p : Nat} {as : List Nat} {ov : Bool} {W : List wn} (D : rRD dA h0 z0 sv0 op y tt xs rd sc eNo h z p (-1) d as sv ws (tmI ov) W) (hp : p ≤ xs.length) {K : Int32 → hm_T → hz_T → Prop} (k1 : p = xs.length → K 1 h z) (k0 : p ≠ xs.length → rEr dA h0 z0 sv0 y tt rd sc p (K 0)) : w_TextReader_readEnd6 dA y K h z := by
  have hlen := D.2.1.2.1
  exact rl_readEnd D.1 D.2.1 (by omega) k1 (fun w h1 R1 M1 => (D.mo1 R1 M1 hz_mo.refl (tmI_01 ov)).er rfl (k0 w))
theorem rl_doc (J0 : jb dA h0 sc sv0 ws0) (D : rRD dA h0 z0 sv0 none y tt xs rd sc eNo h z 0 (-1) d [] sv ws (tmI false) []) {c s : Nat} (hc : 40 * xs.length + 41 ≤ c) (hs : 2600 * xs.length + 2601 ≤ s) {K : Int32 → hm_T → hz_T → Prop}
    (kok : ∀ W ov, p_doc xs = .inr (W, ov) → ∀ (h1 : hm_T) (z1 : hz_T) (p1 d1 : Nat) (as1 : List Nat) (sv1 : Nat) (ws1 : List Nat), rRD dA h0 z0 sv0 none y tt xs rd sc eNo h1 z1 p1 (-1) d1 as1 sv1 ws1 (tmI ov) W → as1.length = W.length → K 1 h1 z1)
    (kerr : ∀ e, p_doc xs = .inl e → e ≤ xs.length + 1 → rEr dA h0 z0 sv0 y tt rd sc e (K 0)) : w_MarkupReader_readDocument dA y c s K h z := by
  have hlen := D.2.1.2.1
  have hcx := D.2.1.2.2
  have ep : p_doc xs = if xs.getD 0 0 ≠ 60 then .inl 0 else if a_small (xs.getD 1 0) = false then .inl 1 else p_fin xs (p_F xs 8 none 0 [1] 0 [] false) := rfl
  have h1l := getD_lt hcx 0
  have h2l := getD_lt hcx 1
  unfold w_MarkupReader_readDocument
  refine cg_c_of D.1 (rl_seen (i := 0) D.1 D.2.1 (by omega) ?_)
  by_cases g0 : xs.getD 0 0 = 60
  · rw [if_neg (fun w => w g0)] at ep
    have l0 := getD_pos g0 (by decide)
    refine if_yes (by rw [g0]; rfl) (cg_c_of D.1 (rl_seen (i := 1) D.1 D.2.1 (by omega) (cp_small h2l ?_)))
    cases g1 : a_small (xs.getD 1 0) with
    | false =>
      rw [if_pos g1] at ep
      rw [if_neg (show ¬ false = true by decide)]
      exact if_yes rfl (cg_c_of D.1 (rl_fail' (i := 1) D (fun h1 z1 sv1 p1 tm1 ws1 a1 a2 a3 a4 a5 => ⟨Or.inl rfl, kerr _ ep (by omega) h1 z1 sv1 p1 tm1 ws1 a1 a2 a3 a4 a5⟩)))
    | true =>
      rw [if_neg (by rw [g1]; decide)] at ep
      rw [if_pos (show true = true from rfl)]
      have LF := p_F_le (xs := xs) 8 none 0 [1] 0 [] false l0 ⟨g0, g1, by omega, by omega⟩
      have R := pc_bound (r := p_F xs 8 none 0 [1] 0 [] false) (L := xs.length) (c := c - 1) (s := s - 1) (fun e w => (LF.1 e w).2) (fun q W ov w => (LF.2 q W ov w).2.1) (by omega) (by omega)
      refine if_no (by decide) ⟨1, c - 1, s - 1, rfl, by omega, by omega, by omega, fun l hl9 => ?_⟩
      refine cg_si_of (j := 0) hm_s (by omega) (by omega) ?_
      rw [hm_uu]
      have M1 : hm_mo h (hm_u h l (.inl (dA 0, 1, .inl (upd (fun _ => 0) 0 1)))) (fun _ => False) := fun b e hb _ => by rw [hm_n (fun w => by rw [w, hl9] at hb; cases hb)]; exact hb
      have D1 := D.mo1 (p1 := 0) (tm1 := tmI false) (M1 _ _ D.1 id) (M1.weak (fun b w => w.elim)) hz_mo.refl (tmI_01 _)
      have L1 : cp_lab dA (hm_u h l (.inl (dA 0, 1, .inl (upd (fun _ => 0) 0 1)))) l [1] := ⟨_, hm_s, fun j hj => by
        have : j = 0 := by simp at hj; exact hj
        subst this
        rfl⟩
      obtain ⟨mb, nb, fb, b1, b2, br⟩ := id D.2.2.1
      obtain ⟨mo4, r1, r2⟩ := id D.2.2.2.1
      refine cg_c_of D1.1 (cg_rm_of (c1 := c - 1) (s1 := s - 1) (Nat.le_refl _) (Nat.le_refl _) (rl_F J0 (Or.inl ⟨rfl, rfl⟩) 8 _ z 0 d [] sv ws false [] none l [1] (c - 1) (s - 1) _ D1 rfl (fun j w => by cases w) L1 (fun w => by
        rcases w with w | w | w | w | w | w
        · rw [w, D.1] at hl9; cases hl9
        · rw [w, r1] at hl9; cases hl9
        · exact w.2 rfl
        · rw [w, b1] at hl9; cases hl9
        · rw [w, b2] at hl9; cases hl9
        · exact w) (D.fr hl9) (by decide) (Nat.le_refl _) l0 ⟨g0, g1, by decide, by decide⟩ R.1 R.2 (fun q W1 ov1 e h2 z2 d2 as2 sv2 ws2 D2 l2 a2 => ?_) (fun e9 e h2 z2 sv2 p2 tm2 ws2 a1 a2 a3 a4 a5 => ?_)))
      · have e' : p_F xs 8 none 0 [1] 0 [] false = .inr (q, W1, ov1) := e
        rw [e'] at ep
        refine if_no (by decide) (cg_c_of D2.1 (rl_end D2 (LF.2 _ _ _ e').2.1 (fun w => ?_) (fun w h3 z3 sv3 p3 tm3 ws3 a1 a2 a3 a4 a5 => ?_)))
        · exact if_no (by decide) (kok W1 ov1 (by rw [ep]; simp only [p_fin, w, if_true]) h2 z2 q d2 as2 sv2 ws2 D2 l2)
        · exact if_yes rfl (kerr q (by rw [ep]; simp only [p_fin, w, if_false]) (by have := (LF.2 _ _ _ e').2.1; omega) h3 z3 sv3 p3 tm3 ws3 a1 a2 a3 a4 a5)
      · have e' : p_F xs 8 none 0 [1] 0 [] false = .inl e9 := e
        rw [e'] at ep
        exact if_yes rfl (kerr e9 ep (by have := (LF.1 _ e').2; omega) h2 z2 sv2 p2 tm2 ws2 a1 a2 a3 a4 a5)
  · rw [if_pos g0] at ep
    exact if_no (fun w => g0 ((nI_eq (b := 60) (by omega) (by decide)).mp w)) (cg_c_of D.1 (rl_fail' (i := 0) D (fun h1 z1 sv1 p1 tm1 ws1 a1 a2 a3 a4 a5 => ⟨Or.inl rfl, kerr _ ep (by omega) h1 z1 sv1 p1 tm1 ws1 a1 a2 a3 a4 a5⟩)))
theorem rl_one (J0 : jb dA h0 sc sv0 ws0) (O : rOp h0 op od) (hod : 1 ≤ od ∧ od ≤ 6) {l : Nat} {lab : List Int32} (hL : cp_lab dA h l lab) (D : rRD dA h0 z0 sv0 op y tt xs rd sc eNo h z 0 (-1) d [] sv ws (tmI false) []) (nl : ¬ rQ eNo y rd d sc sv [] l) (fl : fr0 h0 sv0 l) (hll : lab.length ≤ 18 + od) {c s : Nat} (hc : 40 * xs.length + 40 ≤ c) (hs : 2600 * xs.length + 2600 ≤ s) {K : Int32 → hm_T → hz_T → Prop}
    (kok : ∀ W ov, p_one xs od lab = .inr (W, ov) → ∀ (h1 : hm_T) (z1 : hz_T) (p1 d1 : Nat) (as1 : List Nat) (sv1 : Nat) (ws1 : List Nat), rRD dA h0 z0 sv0 op y tt xs rd sc eNo h1 z1 p1 (-1) d1 as1 sv1 ws1 (tmI ov) W → as1.length = W.length → K 1 h1 z1)
    (kerr : ∀ e, p_one xs od lab = .inl e → e ≤ xs.length → rEr dA h0 z0 sv0 y tt rd sc e (K 0)) : w_MarkupReader_readOne dA y op (some l) c s K h z := by
  have hlen := D.2.1.2.1
  obtain ⟨⟨u, hu⟩, _, _⟩ := id D.2.1
  have ep : p_one xs od lab = if xs.length = 0 then .inl 0 else p_fin xs (p_piece (p_F xs 8) xs none od lab 0 [] false) := rfl
  unfold w_MarkupReader_readOne
  refine cg_R_ref D.1 rfl (cg_d_of ⟨u, xs, hu, by omega, ?_⟩)
  by_cases g0 : xs.length = 0
  · rw [if_pos g0] at ep
    rw [if_pos g0]
    exact if_no (by decide) (cg_c_of D.1 (rl_fail' (i := 0) D (fun h1 z1 sv1 p1 tm1 ws1 a1 a2 a3 a4 a5 => ⟨Or.inl rfl, kerr _ ep (by omega) h1 z1 sv1 p1 tm1 ws1 a1 a2 a3 a4 a5⟩)))
  · rw [if_neg g0] at ep
    rw [if_neg g0]
    have LF := p_piece_le (p_F_le (xs := xs) 8) none od lab 0 [] false (by omega) ⟨hod.1, hod.2, by omega⟩
    have R := pc_bound (r := p_piece (p_F xs 8) xs none od lab 0 [] false) (L := xs.length) (c := c) (s := s) (fun e w => (LF.1 e w).2) (fun q W ov w => (LF.2 q W ov w).2.1) (by omega) (by omega)
    refine if_yes rfl (cg_c_of D.1 (cg_rm_of (c1 := c) (s1 := s) (Nat.le_refl _) (Nat.le_refl _) (rl_piece J0 O (rl_F J0 O 8) h z 0 d [] sv ws false [] none l lab c s _ D rfl (fun j w => by cases w) hL nl fl hll (Nat.le_refl _) (by omega) ⟨hod.1, hod.2, by omega⟩ R.1 R.2 (fun q W1 ov1 e h2 z2 d2 as2 sv2 ws2 D2 l2 a2 => ?_) (fun e9 e h2 z2 sv2 p2 tm2 ws2 a1 a2 a3 a4 a5 => ?_))))
    · have e' : p_piece (p_F xs 8) xs none od lab 0 [] false = .inr (q, W1, ov1) := e
      rw [e'] at ep
      refine if_no (by decide) (cg_c_of D2.1 (rl_end D2 (LF.2 _ _ _ e').2.1 (fun w => ?_) (fun w h3 z3 sv3 p3 tm3 ws3 a1 a2 a3 a4 a5 => ?_)))
      · exact if_no (by decide) (kok W1 ov1 (by rw [ep]; simp only [p_fin, w, if_true]) h2 z2 q d2 as2 sv2 ws2 D2 l2)
      · exact if_yes rfl (kerr q (by rw [ep]; simp only [p_fin, w, if_false]) (LF.2 _ _ _ e').2.1 h3 z3 sv3 p3 tm3 ws3 a1 a2 a3 a4 a5)
    · have e' : p_piece (p_F xs 8) xs none od lab 0 [] false = .inl e9 := e
      rw [e'] at ep
      exact if_yes rfl (kerr e9 ep (LF.1 _ e').2 h2 z2 sv2 p2 tm2 ws2 a1 a2 a3 a4 a5)
end PQ3
