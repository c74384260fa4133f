-- reading: elements, content, all of it
theorem el_room {p p1 tl e c s : Nat} (h1 : p + 2 ≤ p1) (h2 : p1 ≤ tl) (h3 : tl ≤ e) (hc : 40 * (e - p) + 40 ≤ c) (hs : 2600 * (e - p) + 2600 ≤ s) : 3 ≤ c ∧ 212 ≤ s ∧ 2 ≤ c - 3 ∧ 146 ≤ s - 212 ∧ 40 * (tl - p1) + 20 ≤ c - 3 - 2 ∧ 2600 * (tl - p1) + 1600 ≤ s - 212 - 146 := by omega
theorem el_room2 {p p1 tl e c s : Nat} (h1 : p + 2 ≤ p1) (h2 : p1 ≤ tl) (h3 : tl + 1 ≤ e) (hc : 40 * (e - p) - 2 ≤ c) (hs : 2600 * (e - p) - 40 ≤ s) : 3 ≤ c ∧ 212 ≤ s ∧ 2 ≤ c - 3 ∧ 146 ≤ s - 212 ∧ 40 * (tl - p1) + 20 ≤ c - 3 - 2 ∧ 2600 * (tl - p1) + 1600 ≤ s - 212 - 146 := by omega
theorem el_room3 {p p1 q e c c1 s s1 : Nat} (h1 : p + 2 ≤ p1) (h2 : p1 ≤ q) (h3 : q ≤ e) (hc : 40 * (e - p) + 40 ≤ c) (hs : 2600 * (e - p) + 2600 ≤ s) (a : c - 3 - 2 ≤ c1 + 40 * (q - p1)) (b : s - 212 - 146 ≤ s1 + 2600 * (q - p1)) : 40 * (e - q) + 40 ≤ c1 ∧ 2600 * (e - q) + 2600 ≤ s1 := by omega
theorem el_room4 {p p1 q e c c1 s s1 : Nat} (h1 : p + 2 ≤ p1) (h2 : p1 ≤ q) (h3 : q + 1 ≤ e) (hc : 40 * (e - p) - 2 ≤ c) (hs : 2600 * (e - p) - 40 ≤ s) (a : c - 3 - 2 ≤ c1 + 40 * (q - p1)) (b : s - 212 - 146 ≤ s1 + 2600 * (q - p1)) : 40 * (e - q) ≤ c1 ∧ 2600 * (e - q) ≤ s1 := by omega
section PL15
variable {dA : Nat → ClassId} {h0 : hm_T} {z0 : hz_T} {sv0 : Nat} {op : Option Nat} {od y tt : Nat} {xs : List Nat} {rd sc : Nat} {ws0 : List Nat}
theorem rl_elem (J0 : jb dA h0 sc sv0 ws0) (O : rOp h0 op od) {P : Nat → Option Nat → Nat → Nat → (Int32 → hm_T → hz_T → Prop) → hm_T → hz_T → Prop} {PC : Nat → Nat → List Int32 → Nat → List wn → Bool → pR} {N : Nat} (hP : rImpC dA h0 z0 sv0 op y tt xs rd sc P PC N) (hC : pOKc xs PC (fun _ dep => 1 ≤ dep ∧ dep ≤ 6 ∧ 6 ≤ N + dep)) : rImp dA h0 z0 sv0 op od y tt xs rd sc (w_MarkupReader_readElement dA P) (p_elem PC xs) (fun p dep => xs.getD p 0 = 60 ∧ a_small (xs.getD (p + 1) 0) = true ∧ dep ≤ 5 ∧ 6 ≤ N + 1 + dep) := by
  intro h z p d as sv ws ov W par l lab c s K D hl hp hL nl fl hll hW hpx hG hc hs kok kerr
  obtain ⟨g0, g1, g2, g3⟩ := hG
  have hlen := D.2.1.2.1
  have hcx := D.2.1.2.2
  have l1 : p + 1 < xs.length := getD_pos rfl (a_small_ne g1)
  have hla := a_let_le (xs := xs) (p := p + 1) (by omega)
  have hn := a_let_pos g1
  have hn6 := (a_let_small (xs := xs) (p := p + 1)).1
  have T := p_atts_le (xs := xs) 130 (p + 1 + a_let xs (p + 1)) [] ov (by omega)
  have ep := p_elem_tail (PC := PC) (xs := xs) (par := par) (dep := rDep W od par) (lab := lab) (p := p) (W := W) (ov := ov)
  generalize hnm : (xs.drop (p + 1)).take (a_let xs (p + 1)) = nm at *
  have hnn : ∀ c ∈ nm, c ≠ 0 := fun c hc => a_small_ne (a_name_ne (xs := xs) (p := p + 1) c (by rw [hnm]; exact hc))
  have hcn : ∀ c ∈ nm, c < 128 := fun c hc => hcx c (List.mem_of_mem_drop (List.mem_of_mem_take (by rw [hnm]; exact hc)))
  have hnl : nm.length ≤ 6 := by rw [← hnm, List.length_take]; omega
  have room : 3 ≤ c ∧ 212 ≤ s ∧ 2 ≤ c - 3 ∧ 146 ≤ s - 212 ∧ 40 * (tE (p_atts xs 130 (p + 1 + a_let xs (p + 1)) [] ov) - (p + 1 + a_let xs (p + 1))) + 20 ≤ c - 3 - 2 ∧ 2600 * (tE (p_atts xs 130 (p + 1 + a_let xs (p + 1)) [] ov) - (p + 1 + a_let xs (p + 1))) + 1600 ≤ s - 212 - 146 := by
    cases e : p_atts xs 130 (p + 1 + a_let xs (p + 1)) [] ov with
    | inl e9 =>
      rw [e] at ep
      rw [ep] at hc hs
      exact el_room (p := p) (e := e9) (by omega) (T.1 _ e).1 (Nat.le_refl _) hc hs
    | inr x9 =>
      obtain ⟨q, att, ov1⟩ := x9
      rw [e] at ep
      simp only [] at ep
      have L := p_tail_le (par := par) (lab := lab) (nm := nm) (W := W) (q := q) (att := att) (ov1 := ov1) hC g2 g3 hnn (T.2 _ _ _ e).2
      cases e2 : p_tail PC xs par (rDep W od par) lab nm W q att ov1 with
      | inl e9 =>
        rw [e2] at ep
        rw [ep] at hc hs
        exact el_room (p := p) (e := e9) (by omega) (T.2 _ _ _ e).1 (L.1 _ e2).1 hc hs
      | inr x8 =>
        obtain ⟨q3, W3, ov3⟩ := x8
        rw [e2] at ep
        rw [ep] at hc hs
        exact el_room2 (p := p) (e := q3) (by omega) (T.2 _ _ _ e).1 (L.2 _ _ _ e2).1 hc hs
  unfold w_MarkupReader_readElement
  refine cg_I_of D.1 rfl (cg_p_of D.1 (show 1 < 6 by decide) ?_)
  rw [nI_1]
  have M : ∀ e, hm_mo h (hm_u h y e) (fun b => b = y) := fun e => hm_mo.u rfl
  have D1 := D.mo1 (h1 := hm_u h y (r6c tt (p + 1) (-1) rd sc (tmI ov))) (p1 := p + 1) (tm1 := tmI ov) hm_s (M _) hz_mo.refl (tmI_01 ov)
  refine cg_c_of D1.1 (cg_rm_of (c1 := 3) (s1 := 212) room.1 room.2.1 (rl_make' (kd := 1) D1 J0 O hp hl (by omega) (hL.mo (M _) (fun w => nl (Or.inl w))) nl fl (Nat.le_refl _) (Nat.le_refl _) (fun h6 x aq e1 e2 d1 D6 c6 z1 z2 j6 fx fa nQ L6 => ?_)))
  have ne : (as ++ [x]) ≠ [] := by simp
  have xr : x ≠ rd := fun w => nQ x (Or.inl rfl) (Or.inr (Or.inl w))
  have xd : x ≠ d1 := fun w => nQ x (Or.inl rfl) (Or.inr (Or.inr (Or.inl ⟨w, ne⟩)))
  refine cg_c_of D6.1 (cg_rm_of (c1 := 2) (s1 := 146) room.2.2.1 room.2.2.2.1 (rl_name D6.1 D6.2.1 (by omega) (Nat.le_refl _) (Nat.le_refl _) (fun h7 z7 t7 R7 M7 Z7 k7 => ?_)))
  rw [if_neg hn] at R7
  have ny : ∀ b, (b = x ∨ b = aq ∨ b = l) → ¬ b = y := fun b w k => nQ b w (Or.inl k)
  have D7 := D6.mo1 R7 M7 Z7 (tmI_01 ov)
  have c7 := M7 _ _ c6 (ny x (Or.inl rfl))
  refine cg_d_of (cg_p_of c7 (show 7 < 9 by decide) ?_)
  have D8 := D7.text (e := .inr (8, [.int (nI 1), va_rf (rPar op (as ++ [x]) (0, par, 0, [], [], [])), .int (nI (rDep W od par)), .ref l, .ref aq, .int (-1), .int (-1), .ref t7, .ref e2])) c7 fx xr (fun _ => xd)
  have M8 : ∀ e, hm_mo h7 (hm_u h7 x e) (fun b => b = x) := fun e => hm_mo.u rfl
  obtain ⟨mo6, q1, _⟩ := id j6
  obtain ⟨lf, L1, L2⟩ := id L6
  have jl8 := fun e => (j6.mo M7 (ny aq (Or.inr (Or.inl rfl))) (fun w => absurd rfl w)).mo (M8 e) (hm_ne q1 c6 rfl) (fun w => absurd rfl w)
  have L8 : ∀ e, cp_lab dA (hm_u h7 x e) l lab := fun e => (L6.mo M7 (ny l (Or.inr (Or.inr rfl)))).mo (M8 e) (hm_ne L1 c6 rfl)
  have D9 := D8.own (E2 := fun b => b = x ∨ b = aq ∨ (b = dA 99 ∧ ([] : List Nat) ≠ [])) (Y := fun _ => False) D8.1 D8.2.2.1 (Or.inl rfl) hm_mo.refl (fun b w => w.elim) hz_mo.refl (tmI_01 ov) (fun b e hb w => w.elim (fun w => Or.inl (Or.inl w)) (fun w => w.elim (fun w => Or.inl (Or.inr w)) (fun w => absurd rfl w.2)))
  have Pe : rPe dA h0 z0 sv0 op y tt xs rd sc par (rDep W od par) l lab x aq nm (hm_u h7 x (.inr (8, [.int (nI 1), va_rf (rPar op (as ++ [x]) (0, par, 0, [], [], [])), .int (nI (rDep W od par)), .ref l, .ref aq, .int (-1), .int (-1), .ref t7, .ref e2]))) z7 (p + 1 + a_let xs (p + 1)) d1 as sv ws ov W (dA 99) [] [] := by
    refine ⟨D9, ⟨t7, e2, hm_s, by rw [← hnm]; exact k7, by obtain ⟨u, w⟩ := z2; exact ⟨u, Z7 _ _ w⟩⟩, jl8 _, rfl, fun i hi => absurd hi (Nat.not_lt_zero _), L8 _, fun b w => ?_, Nat.zero_le _, fun q hq => by cases hq⟩
    rcases w with w | w | w | w | ⟨i, hi, w⟩
    · exact ⟨nQ b (Or.inl w), by rw [w]; exact fx⟩
    · exact ⟨nQ b (Or.inr (Or.inl w)), by rw [w]; exact fa⟩
    · exact ⟨nQ b (Or.inr (Or.inr w)), by rw [w]; exact fl⟩
    · exact absurd rfl w.2
    · exact absurd hi (Nat.not_lt_zero _)
  refine rl_atts 130 mF 0 (p + 1 + a_let xs (p + 1)) _ z7 sv ws ov (dA 99) [] [] (c - 3 - 2) (s - 212 - 146) Pe (by omega) (by unfold mF; omega) (by unfold mF; omega) (Nat.zero_le _) (by omega) room.2.2.2.2.1 room.2.2.2.2.2 (fun q att ov1 e h9 z9 sv9 ws9 ad9 aas9 c9 s9 Pe9 hc9 hs9 => ?_) (fun e9 e => ?_)
  · rw [e] at ep
    simp only [] at ep
    have Tq := T.2 _ _ _ e
    rw [ep] at hc hs kok kerr
    have L := p_tail_le (par := par) (lab := lab) (nm := nm) (W := W) (q := q) (att := att) (ov1 := ov1) hC g2 g3 hnn Tq.2
    have room2 : ptC (p_tail PC xs par (rDep W od par) lab nm W q att ov1) q ≤ c9 ∧ ptS (p_tail PC xs par (rDep W od par) lab nm W q att ov1) q ≤ s9 := by
      cases e2 : p_tail PC xs par (rDep W od par) lab nm W q att ov1 with
      | inl e9 =>
        rw [e2] at hc hs
        exact el_room3 (p := p) (p1 := p + 1 + a_let xs (p + 1)) (by omega) Tq.1 (L.1 _ e2).1 hc hs hc9 hs9
      | inr x8 =>
        obtain ⟨q3, W3, ov3⟩ := x8
        rw [e2] at hc hs
        exact el_room4 (p := p) (p1 := p + 1 + a_let xs (p + 1)) (by omega) Tq.1 (L.2 _ _ _ e2).1 hc hs hc9 hs9
    exact rl_elem70 hP hC Pe9 hl hp g2 g3 hll hnn hcn hnl Tq.2 (by omega) room2.1 room2.2 kok kerr
  · rw [e] at ep
    exact kerr e9 ep
theorem ct_room1 {p e c s : Nat} (h : p ≤ e) (hc : 40 * (e - p) + 41 ≤ c) (hs : 2600 * (e - p) + 2640 ≤ s) : 1 ≤ c ∧ 31 ≤ s ∧ 40 * (e - p) + 40 ≤ c - 1 ∧ 2600 * (e - p) + 2600 ≤ s - 31 := by omega
theorem ct_room2 {p q e c s : Nat} (h : p < q) (h2 : q ≤ e) (hc : 40 * (e - p) + 41 ≤ c) (hs : 2600 * (e - p) + 2640 ≤ s) : 1 ≤ c ∧ 31 ≤ s ∧ 40 * (q - p) - 2 ≤ c - 1 ∧ 2600 * (q - p) - 40 ≤ s - 31 ∧ 40 * (e - q) + 41 ≤ c - 1 - (40 * (q - p) - 2) ∧ 2600 * (e - q) + 2640 ≤ s - 31 - (2600 * (q - p) - 40) := by omega
theorem ct_room3 {p q e c s : Nat} (h : p < q) (h2 : q ≤ e) (hc : 40 * (e - p) ≤ c) (hs : 2600 * (e - p) ≤ s) : 1 ≤ c ∧ 31 ≤ s ∧ 40 * (q - p) - 2 ≤ c - 1 ∧ 2600 * (q - p) - 40 ≤ s - 31 ∧ 40 * (e - q) ≤ c - 1 - (40 * (q - p) - 2) ∧ 2600 * (e - q) ≤ s - 31 - (2600 * (q - p) - 40) := by omega
theorem getD_wn_l {W W2 : List wn} {j : Nat} (h : j < W.length) : (W ++ W2).getD j wn0 = W.getD j wn0 := by
  rw [List.getD_eq_getElem?_getD, List.getElem?_append_left h, ← List.getD_eq_getElem?_getD]
theorem rl_contL {P : Nat → Option Nat → Option Nat → Nat → Nat → (Int32 → hm_T → hz_T → Prop) → hm_T → hz_T → Prop} {PP : Option Nat → Nat → List Int32 → Nat → List wn → Bool → pR} {N : Nat} (hP : rImp dA h0 z0 sv0 op od y tt xs rd sc P PP (fun _ dep => 1 ≤ dep ∧ dep ≤ 6 ∧ 6 ≤ N + dep)) (hO : pOK xs PP (fun _ dep => 1 ≤ dep ∧ dep ≤ 6 ∧ 6 ≤ N + dep)) {K : Int32 → hm_T → hz_T → Prop} {j dep x : Nat} {lab : List Int32} (hll : lab.length ≤ 18 + dep) (g2 : dep ≤ 5) (g3 : 6 ≤ N + (dep + 1)) : ∀ (f fu k p : Nat) (h : hm_T) (z : hz_T) (d : Nat) (as : List Nat) (sv : Nat) (ws : List Nat) (ov : Bool) (W : List wn) (c s : Nat), rRD dA h0 z0 sv0 op y tt xs rd sc eNo h z p (-1) d as sv ws (tmI ov) W → as.length = W.length → j < W.length → W.length ≤ p → p ≤ xs.length → (W.getD j wn0).2.2.1 = dep → (W.getD j wn0).2.2.2.1 = lab → as.getD j 0 = x → xs.length + 1 ≤ p + f → xs.length + 1 ≤ p + fu → 0 < fu → k < p → pccC (p_cont PP xs f k j (dep + 1) lab p W ov) p ≤ c → pccS (p_cont PP xs f k j (dep + 1) lab p W ov) p ≤ s →
    (∀ q W1 ov1, p_cont PP xs f k j (dep + 1) lab p W ov = .inr (q, W1, ov1) → ∀ (h1 : hm_T) (z1 : hz_T) (d1 : Nat) (as1 : List Nat) (sv1 : Nat) (ws1 : List Nat), rRD dA h0 z0 sv0 op y tt xs rd sc eNo h1 z1 q (-1) d1 as1 sv1 ws1 (tmI ov1) W1 → as1.length = W1.length → aext as as1 → K 1 h1 z1) →
    (∀ e, p_cont PP xs f k j (dep + 1) lab p W ov = .inl e → rEr dA h0 z0 sv0 y tt rd sc e (K 0)) → w_MarkupReader_readContent_2 dA P y K fu (some x) (nI k) c s h z := by
  intro f
  induction f with
  | zero => intro fu k p h z d as sv ws ov W c s D a1 a2 a3 a4; omega
  | succ f ih =>
    intro fu k p h z d as sv ws ov W c s D hl hj hW hp eD eL eX f1 f2 f3 hk hc hs kok kerr
    obtain ⟨fu, rfl⟩ : ∃ f, fu = f + 1 := ⟨fu - 1, by omega⟩
    have hlen := D.2.1.2.1
    have hcx := D.2.1.2.2
    obtain ⟨⟨u, hu⟩, _, _⟩ := id D.2.1
    have ep : p_cont PP xs (f + 1) k j (dep + 1) lab p W ov = if p = xs.length then .inl p else if xs.getD p 0 = 60 ∧ xs.getD (p + 1) 0 = 47 then .inr (p, W, ov) else match PP (some j) (dep + 1) (lab ++ [2 * nI k + 1]) p W ov with
      | .inl e => .inl e
      | .inr (q, W1, ov1) => p_cont PP xs f (k + 1) j (dep + 1) lab q W1 ov1 := rfl
    unfold w_MarkupReader_readContent_2
    refine cg_R_ref D.1 rfl (cg_d_of ⟨u, xs, hu, if_no (nI_ge (by omega) (by omega)) (cg_I_of D.1 rfl (cg_R_ref D.1 rfl (cg_d_of ⟨u, xs, hu, ?_⟩)))⟩)
    by_cases a0 : p = xs.length
    · rw [if_pos a0] at ep
      refine if_yes (by rw [a0]) (cg_I_of D.1 rfl (cg_c_of D.1 (rl_fail' D (fun h1 z1 sv1 p1 tm1 ws1 b1 b2 b3 b4 b5 => ⟨Or.inl rfl, kerr _ ep h1 z1 sv1 p1 tm1 ws1 b1 b2 b3 b4 b5⟩))))
    rw [if_neg a0] at ep
    refine if_no (fun w => a0 ((nI_eq (by omega) (by omega)).mp w)) (cg_I_of D.1 rfl (cg_c_of D.1 (rl_seen D.1 D.2.1 (by omega) ?_)))
    have h1l := getD_lt hcx p
    have h2l := getD_lt hcx (p + 1)
    have go : ¬ (xs.getD p 0 = 60 ∧ xs.getD (p + 1) 0 = 47) → w_MarkupReader_readContent_66 dA P y K (w_MarkupReader_readContent_2 dA P y K fu) (some x) (nI k) c s h z := fun w => by
      rw [if_neg w] at ep
      have L := hO (some j) (dep + 1) (lab ++ [2 * nI k + 1]) p W ov (by omega) ⟨by omega, by omega, by omega⟩
      have Nj := (D.2.2.2.2.2.1 j hj).1
      rw [eX] at Nj
      obtain ⟨l9, aq9, tx9, kt9, k1, n1, _, k2, n2, _⟩ := Nj
      rw [eL] at k2
      have eDep : rDep W od (some j) = dep + 1 := by show (W.getD j wn0).2.2.1 + 1 = dep + 1; rw [eD]
      have ePar : rPar op as (0, some j, 0, [], [], []) = some x := by show some (as.getD j 0) = some x; rw [eX]
      have step : ∀ (c1 s1 : Nat) (h1 : hm_T) (l1 : Nat) (K2 : Int32 → hm_T → hz_T → Prop), cp_lab dA h1 l1 (lab ++ [2 * nI k + 1]) → h l1 = none → hm_mo h h1 (fun _ => False) → pcC (PP (some j) (dep + 1) (lab ++ [2 * nI k + 1]) p W ov) p ≤ c1 → pcS (PP (some j) (dep + 1) (lab ++ [2 * nI k + 1]) p W ov) p ≤ s1 → (∀ q W1 ov1, PP (some j) (dep + 1) (lab ++ [2 * nI k + 1]) p W ov = .inr (q, W1, ov1) → ∀ (h1 : hm_T) (z1 : hz_T) (d1 : Nat) (as1 : List Nat) (sv1 : Nat) (ws1 : List Nat), rRD dA h0 z0 sv0 op y tt xs rd sc eNo h1 z1 q (-1) d1 as1 sv1 ws1 (tmI ov1) W1 → as1.length = W1.length → aext as as1 → K2 1 h1 z1) → (∀ e, PP (some j) (dep + 1) (lab ++ [2 * nI k + 1]) p W ov = .inl e → rEr dA h0 z0 sv0 y tt rd sc e (K2 0)) → P y (some x) (some l1) c1 s1 K2 h1 z := fun c1 s1 h1 l1 K2 L1 hl1 M1 hc1 hs1 ko ke => by
        have D1 := D.mo1 (h1 := h1) (p1 := p) (tm1 := tmI ov) (M1 _ _ D.1 id) (M1.weak (fun b w => w.elim)) hz_mo.refl (tmI_01 ov)
        have D1' := D
        obtain ⟨E1, E2, E3, E4, E5, E6, E7, E8, E9, E10, E11, E12, E13⟩ := D1'
        obtain ⟨mb, nb, fb, b1, b2, br⟩ := id E3
        obtain ⟨mo4, r1, r2⟩ := id E4
        have := hP h1 z p d as sv ws ov W (some j) l1 (lab ++ [2 * nI k + 1]) c1 s1 K2 D1 hl (fun i e => by cases e; exact hj) L1 (fun w => by
          rcases w with w | w | w | w | w | w
          · rw [w, E1] at hl1; cases hl1
          · rw [w, r1] at hl1; cases hl1
          · rcases r2 with k | ⟨_, n, f, c3, _⟩
            · exact w.2 k.1
            · rw [w.1, c3] at hl1; cases hl1
          · rw [w, b1] at hl1; cases hl1
          · rw [w, b2] at hl1; cases hl1
          · exact w) (D.fr hl1) (by rw [eDep, List.length_append]; simp; omega) hW (by omega) (by rw [eDep]; exact ⟨by omega, by omega, by omega⟩) (by rw [eDep]; exact hc1) (by rw [eDep]; exact hs1) (by rw [eDep]; exact ko) (by rw [eDep]; exact ke)
        rwa [ePar] at this
      unfold w_MarkupReader_readContent_66
      cases e : PP (some j) (dep + 1) (lab ++ [2 * nI k + 1]) p W ov with
      | inl e9 =>
        rw [e] at ep
        rw [ep] at hc hs
        have R := ct_room1 (L.1 _ e).1 hc hs
        refine cg_d_of (cg_c_of k1 (cg_rm_of (c1 := 1) (s1 := 31) R.1 R.2.1 (rl_child k1 rfl k2 (by omega) (Nat.le_refl _) (Nat.le_refl _) (fun h1 l1 L1 hl1 M1 => cg_c_of (M1 _ _ D.1 id) (cg_rm_of (c1 := c - 1) (s1 := s - 31) (Nat.le_refl _) (Nat.le_refl _) (step _ _ h1 l1 _ L1 hl1 M1 (by rw [e]; exact R.2.2.1) (by rw [e]; exact R.2.2.2) (fun q W1 ov1 w => ?_) (fun e8 w h2 z2 sv2 p2 tm2 ws2 b1 b2 b3 b4 b5 => ?_)))))))
        · rw [e] at w; cases w
        · rw [e] at w; cases w
          exact if_yes rfl (kerr _ ep h2 z2 sv2 p2 tm2 ws2 b1 b2 b3 b4 b5)
      | inr x9 =>
        obtain ⟨q, W1, ov1⟩ := x9
        rw [e] at ep
        simp only [] at ep
        rw [ep] at hc hs kok kerr
        obtain ⟨o1, o2, W2, o3, o4⟩ := L.2 _ _ _ e
        have I := p_cont_le hO f (k + 1) j (dep + 1) lab q W1 ov1 o2 (fun p => ⟨by omega, by omega, by omega⟩)
        have R : 1 ≤ c ∧ 31 ≤ s ∧ 40 * (q - p) - 2 ≤ c - 1 ∧ 2600 * (q - p) - 40 ≤ s - 31 ∧ pccC (p_cont PP xs f (k + 1) j (dep + 1) lab q W1 ov1) q ≤ c - 1 - (40 * (q - p) - 2) ∧ pccS (p_cont PP xs f (k + 1) j (dep + 1) lab q W1 ov1) q ≤ s - 31 - (2600 * (q - p) - 40) := by
          cases e5 : p_cont PP xs f (k + 1) j (dep + 1) lab q W1 ov1 with
          | inl e9 => rw [e5] at hc hs; exact ct_room2 o1 (I.1 _ e5).1 hc hs
          | inr x7 => obtain ⟨q7, W7, ov7⟩ := x7; rw [e5] at hc hs; exact ct_room3 o1 (I.2 _ _ _ e5).1 hc hs
        refine cg_d_of (cg_c_of k1 (cg_rm_of (c1 := 1) (s1 := 31) R.1 R.2.1 (rl_child k1 rfl k2 (by omega) (Nat.le_refl _) (Nat.le_refl _) (fun h1 l1 L1 hl1 M1 => cg_c_of (M1 _ _ D.1 id) (cg_rm_of (c1 := 40 * (q - p) - 2) (s1 := 2600 * (q - p) - 40) R.2.2.1 R.2.2.2.1 (step _ _ h1 l1 _ L1 hl1 M1 (by rw [e]; exact Nat.le_refl _) (by rw [e]; exact Nat.le_refl _) (fun q2 W3 ov3 w h2 z2 d2 as2 sv2 ws2 D2 l2 a2 => ?_) (fun e8 w => ?_)))))))
        · rw [e] at w; cases w
          rw [nI_1]
          have hlW : W.length ≤ W1.length := by rw [o3, List.length_append]; omega
          have eW : W1.getD j wn0 = W.getD j wn0 := by rw [o3, getD_wn_l hj]
          exact if_no (by decide) (ih fu (k + 1) q h2 z2 d2 as2 sv2 ws2 ov1 W1 _ _ D2 l2 (by omega) (by rw [o3, List.length_append]; omega) o2 (by rw [eW]; exact eD) (by rw [eW]; exact eL) (by rw [a2 j (by omega)]; exact eX) (by omega) (by omega) (by omega) (by omega) R.2.2.2.2.1 R.2.2.2.2.2 (fun q4 W4 ov4 e4 h4 z4 d4 as4 sv4 ws4 D4 l4 a4 => kok q4 W4 ov4 e4 h4 z4 d4 as4 sv4 ws4 D4 l4 (fun i hi => (a4 i (by omega)).trans (a2 i hi))) kerr)
        · rw [e] at w; cases w
    by_cases a1 : xs.getD p 0 = 60
    · refine if_yes (by rw [a1]; rfl) (cg_I_of D.1 rfl (cg_c_of D.1 ?_))
      rw [nI_1]
      refine rl_seen D.1 D.2.1 (by omega) ?_
      by_cases a2 : xs.getD (p + 1) 0 = 47
      · rw [if_pos ⟨a1, a2⟩] at ep
        exact if_yes (by rw [a2]; rfl) (kok _ _ _ ep h z d as sv ws D hl (fun i hi => rfl))
      · exact if_no (fun w => a2 ((nI_eq (b := 47) (by omega) (by decide)).mp w)) (go (fun w => a2 w.2))
    · exact if_no (fun w => a1 ((nI_eq (b := 60) (by omega) (by decide)).mp w)) (go (fun w => a1 w.1))
theorem rl_cont {P : Nat → Option Nat → Option Nat → Nat → Nat → (Int32 → hm_T → hz_T → Prop) → hm_T → hz_T → Prop} {PP : Option Nat → Nat → List Int32 → Nat → List wn → Bool → pR} {N : Nat} (hP : rImp dA h0 z0 sv0 op od y tt xs rd sc P PP (fun _ dep => 1 ≤ dep ∧ dep ≤ 6 ∧ 6 ≤ N + dep)) (hO : pOK xs PP (fun _ dep => 1 ≤ dep ∧ dep ≤ 6 ∧ 6 ≤ N + dep)) : rImpC dA h0 z0 sv0 op y tt xs rd sc (w_MarkupReader_readContent dA P) (p_cont PP xs 130 0) N := by
  intro h z p d as sv ws ov W j dep lab c s K D hl hj hW hp eD eL hll g2 g3 hc hs kok kerr
  have hlen := D.2.1.2.1
  exact rl_contL hP hO hll g2 g3 130 mF 0 p h z d as sv ws ov W c s D hl hj hW hp eD eL rfl (by omega) (by unfold mF; omega) (by unfold mF; omega) (by omega) hc hs kok kerr
/-- elements, as deep as they may be -/
theorem rl_F (J0 : jb dA h0 sc sv0 ws0) (O : rOp h0 op od) : ∀ N, rImp dA h0 z0 sv0 op od y tt xs rd sc (w_F_MarkupReader_readElement dA N) (p_F xs N) (fun p dep => xs.getD p 0 = 60 ∧ a_small (xs.getD (p + 1) 0) = true ∧ dep ≤ 5 ∧ 6 ≤ N + dep) := by
  intro N
  induction N with
  | zero => intro h z p d as sv ws ov W par l lab c s K D hl hp hL nl fl hll hW hpx hG; exact absurd hG.2.2 (by omega)
  | succ N ih => exact rl_elem J0 O (rl_cont (rl_piece J0 O ih) (p_piece_le (p_F_le N))) (p_cont_le (p_piece_le (p_F_le N)) 130 0)
end PL15
