-- reading: the text of a piece; the piece
theorem nI_prd {n : Nat} {v : Int32} (h : nI (n + 1) = v + 1) : v = nI n := by
  rw [← nI_1] at h
  have h2 : nI n + 1 - 1 = v + 1 - 1 := by rw [h]
  rw [Int32.add_sub_cancel, Int32.add_sub_cancel] at h2
  exact h2.symm
theorem vE_gt {xs : List Nat} {stop p f : Nat} (hp : p < xs.length) (h1 : xs.getD p 0 ≠ 60) (h2 : xs.getD p 0 ≠ stop) {q : Nat} {v : List Nat} (e : p_val xs stop (f + 1) p [] = .inr (q, v)) : p < q := by
  unfold p_val at e
  rw [if_neg (by omega), if_neg (fun w => w.elim h1 h2)] at e
  by_cases a2 : xs.getD p 0 = 38
  · rw [if_pos a2] at e
    cases ea : a_ent xs p with
    | none => rw [ea] at e; cases e
    | some x9 =>
      obtain ⟨c9, r9⟩ := x9
      rw [ea] at e
      have := a_ent_some ea
      have := (p_val_le _ _ _ (by omega) e).1
      omega
  · rw [if_neg a2] at e
    have := (p_val_le _ _ _ (by omega) e).1
    omega
theorem p_text_room {E p q c s : Nat} (h : p < q) (hE : E = q) (hc : 40 * (q - p) - 2 ≤ c) (hs : 2600 * (q - p) - 40 ≤ s) : 3 ≤ c ∧ 212 ≤ s ∧ 3 + 11 * (E + 1 - p) ≤ c - 3 ∧ 288 + 872 * (E + 1 - p) ≤ s - 212 := by omega
theorem p_text_roomE {E p c s : Nat} (h : p ≤ E) (hc : 40 * (E - p) + 40 ≤ c) (hs : 2600 * (E - p) + 2600 ≤ s) : 3 ≤ c ∧ 212 ≤ s ∧ 3 + 11 * (E + 1 - p) ≤ c - 3 ∧ 288 + 872 * (E + 1 - p) ≤ s - 212 := by omega
section PL10
variable {dA : Nat → ClassId} {h0 : hm_T} {z0 : hz_T} {sv0 : Nat} {op : Option Nat} {od y tt : Nat} {xs : List Nat} {rd sc : Nat} {ws0 : List Nat}
theorem rl_text (J0 : jb dA h0 sc sv0 ws0) (O : rOp h0 op od) {h : hm_T} {z : hz_T} {p d : Nat} {as : List Nat} {sv : Nat} {ws : List Nat} {ov : Bool} {W : List wn} {par : Option Nat} {l : Nat} {lab : List Int32} {c s : Nat} {K : Int32 → hm_T → hz_T → Prop} (D : rRD dA h0 z0 sv0 op y tt xs rd sc eNo h z p (-1) d as sv ws (tmI ov) W) (hl : as.length = W.length) (hp : ∀ j, par = some j → j < W.length) (hL : cp_lab dA h l lab) (nl : ¬ rQ eNo y rd d sc sv as l) (fl : fr0 h0 sv0 l) (hW : W.length ≤ p) (hpx : p < xs.length) (g0 : xs.getD p 0 ≠ 60) (hc : pcC (p_text xs par (rDep W od par) lab p W ov) p ≤ c) (hs : pcS (p_text xs par (rDep W od par) lab p W ov) p ≤ s)
    (kok : ∀ q W1 ov1, p_text xs par (rDep W od par) lab p W ov = .inr (q, W1, ov1) → ∀ (h1 : hm_T) (z1 : hz_T) (d1 : Nat) (as1 : List Nat) (sv1 : Nat) (ws1 : List Nat), rRD dA h0 z0 sv0 op y tt xs rd sc eNo h1 z1 q (-1) d1 as1 sv1 ws1 (tmI ov1) W1 → as1.length = W1.length → aext as as1 → K 1 h1 z1)
    (kerr : ∀ e, p_text xs par (rDep W od par) lab p W ov = .inl e → rEr dA h0 z0 sv0 y tt rd sc e (K 0)) : cg_rm c s (fun c59 s60 c61 s62 => w_MarkupReader_make dA y 2 (rPar op as (0, par, 0, [], [], [])) (some l) c59 s60 (fun v56 h57 z58 => (cg_c h57 6 y (cg_rm c61 s62 (fun c66 s67 c68 s69 => w_MarkupReader_readValue dA y 60 c66 s67 (fun v63 h64 z65 => (cg_d v56 (fun a70 => (cg_p h64 8 7 a70 (va_rf v63) (fun h71 => (cg_c h71 6 y (w_TextReader_failed6 dA y (fun v72 h73 z74 => (if v72 = 0 then (K 1 h73 z74) else (K 0 h73 z74))) h71 z65))))))) h57 z58)))) h z) := by
  have hlen := D.2.1.2.1
  have hx := fun e9 (w : p_val xs 60 200 p [] = .inl e9) => p_val_er (xs := xs) (stop := 60) 200 p [] w
  have hg := vE_ge (xs := xs) (stop := 60) 200 p []
  have ep : p_text xs par (rDep W od par) lab p W ov = match p_val xs 60 200 p [] with | .inl e => .inl e | .inr (q, v) => .inr (q, W ++ [(2, par, rDep W od par, lab, [], v)], ov || decide (20 < v.length)) := rfl
  have room : 3 ≤ c ∧ 212 ≤ s ∧ 3 + 11 * (vE (p_val xs 60 200 p []) + 1 - p) ≤ c - 3 ∧ 288 + 872 * (vE (p_val xs 60 200 p []) + 1 - p) ≤ s - 212 := by
    cases e : p_val xs 60 200 p [] with
    | inl e9 =>
      rw [e] at ep hg
      rw [ep] at hc hs
      exact p_text_roomE hg hc hs
    | inr x =>
      obtain ⟨q, v⟩ := x
      rw [e] at ep
      rw [ep] at hc hs
      exact p_text_room (vE_gt (f := 199) hpx g0 g0 e) rfl hc hs
  refine cg_rm_of room.1 room.2.1 (rl_make' (kd := 2) D J0 O hp hl (by omega) hL nl fl (Nat.le_refl _) (Nat.le_refl _) (fun h6 x aq e1 e2 d1 D6 c6 z1 z2 j6 fx fa nQ L6 => ?_))
  have ne : (as ++ [x]) ≠ [] := by simp
  have xr : x ≠ rd := fun w => nQ x (Or.inl rfl) (Or.inr (Or.inl w))
  have xd : x ≠ d1 := fun w => nQ x (Or.inl rfl) (Or.inr (Or.inr (Or.inl ⟨w, ne⟩)))
  obtain ⟨lf, L1, L2⟩ := id L6
  obtain ⟨mb6, nb6, fb6, s1, s2, sr⟩ := id D6.2.2.1
  obtain ⟨mo6, q1, _⟩ := id j6
  have nY : ∀ {b : Nat} {e : va_E}, h6 b = some e → (b = x ∨ b = aq ∨ b = l) → ¬ (b = y ∨ b = sc ∨ b = sv) := fun hb w k => nQ _ w (k.elim Or.inl (fun k => k.elim (fun k => Or.inr (Or.inr (Or.inr (Or.inl k)))) (fun k => Or.inr (Or.inr (Or.inr (Or.inr (Or.inl k)))))))
  refine cg_c_of D6.1 (cg_rm_of (c1 := c - 3) (s1 := s - 212) (Nat.le_refl _) (Nat.le_refl _) (rl_value (stop := 60) (by decide) (tmI_01 ov) (Nat.le_of_lt hpx) room.2.2.1 room.2.2.2 D6.1 D6.2.1 D6.2.2.1 (fun q v e h7 z7 sv7 t7 R7 j7 hs7 M7 Z7 k7 => ?_) (fun e9 e h7 z7 sv7 t7 p7 tm7 ws7 R7 j7 hs7 M7 Z7 k7 => ?_)))
  · rw [e] at ep
    have c7 := M7 _ _ c6 (nY c6 (Or.inl rfl))
    rw [tm_val] at R7
    have D7 := D6.mo R7 j7 hs7 M7 Z7 (tmI_01 _)
    refine cg_d_of (cg_p_of c7 (show 7 < 9 by decide) ?_)
    have D8 := D7.text (e := .inr (8, [.int (nI 2), va_rf (rPar op (as ++ [x]) (0, par, 0, [], [], [])), .int (nI (rDep W od par)), .ref l, .ref aq, .int (-1), .int (-1), .ref t7, .ref e2])) c7 fx xr (fun _ => xd)
    have M8 : ∀ e, hm_mo h7 (hm_u h7 x e) (fun b => b = x) := fun e => hm_mo.u rfl
    have jl7 := j6.mo M7 (nY q1 (Or.inr (Or.inl rfl))) (fun w => absurd rfl w)
    have ax : aq ≠ x := hm_ne q1 c6 rfl
    have L8 : ∀ e, cp_lab dA (hm_u h7 x e) l lab := fun e => (L6.mo M7 (nY L1 (Or.inr (Or.inr rfl)))).mo (M8 e) (hm_ne L1 c6 rfl)
    have nQ7 : ∀ b, (b = x ∨ b = aq ∨ b = l) → ¬ rQ eNo y rd d1 sc sv7 (as ++ [x]) b := fun b w k => by
      have ex : ∃ e, h6 b = some e := by
        rcases w with w | w | w <;> subst w
        · exact ⟨_, c6⟩
        · exact ⟨_, q1⟩
        · exact ⟨_, L1⟩
      obtain ⟨e9, hb⟩ := ex
      rcases k with k | k | k | k | k | k
      · exact nQ b w (Or.inl k)
      · exact nQ b w (Or.inr (Or.inl k))
      · exact nQ b w (Or.inr (Or.inr (Or.inl k)))
      · exact nQ b w (Or.inr (Or.inr (Or.inr (Or.inl k))))
      · rcases hs7 with q | q
        · exact nQ b w (Or.inr (Or.inr (Or.inr (Or.inr (Or.inl (k.trans q))))))
        · rw [k, q] at hb; cases hb
      · exact k
    have Dn := D8.leaf (kd := 2) (dep := rDep W od par) (lab := lab) (v := v) hl hp hm_s k7 (by obtain ⟨u, w⟩ := z2; exact ⟨u, Z7 _ _ w⟩) (jl7.mo (M8 _) ax (fun w => absurd rfl w)) fx fa fl nQ7 (L8 _)
    exact cg_c_of Dn.1 (rl_failed0 Dn.1 (if_yes rfl (kok q _ _ ep _ _ _ _ _ _ Dn (by rw [List.length_append, List.length_append, hl]; rfl) (fun i hi => getD_app_l hi))))
  · rw [e] at ep
    have c7 := M7 _ _ c6 (nY c6 (Or.inl rfl))
    refine cg_d_of (cg_p_of c7 (show 7 < 9 by decide) ?_)
    have xy : y ≠ x := hm_ne R7 c7 rfl
    obtain ⟨mb7, nb7, fb7, a1, a2, ar⟩ := id j7
    have M8 : ∀ e, hm_mo h7 (hm_u h7 x e) (fun b => b = x) := fun e => hm_mo.u rfl
    have R8 := fun e => M8 e _ _ R7 xy
    have D6' := D6
    obtain ⟨D1, D2, D3, D4, D5, E6, E7, E8, E9, E10, E11, E12, E13⟩ := D6
    refine cg_c_of (R8 _) (rl_failed1 (R8 _) (by have := hx e9 e; omega) (if_no (by decide) (kerr e9 ep _ _ sv7 p7 tm7 ws7 (R8 _) (j7.mo (M8 _) (hm_ne a1 c7 rfl) (hm_ne a2 c7 rfl)) ?_ ?_ (E8.trans Z7))))
    · exact sv_chain (Y := fun b => b = sc ∨ b = sv0) (sv := sv0) E7 (fun b w => w.elim (fun w => Or.inr (by rw [w, s1]; simp)) Or.inl) E9 hs7
    · intro b e9 hb n
      have n1 : b ≠ sc := fun w => n (Or.inl w)
      have n2 : b ≠ sv0 := fun w => n (Or.inr w)
      refine M8 _ b e9 (M7 b e9 (E7 b e9 hb n) (fun w => ?_)) (fun w => ?_)
      · rcases w with w | w | w
        · rw [w, E11] at hb; cases hb
        · exact n1 w
        · rcases E9 with q | q
          · exact n2 (w.trans q)
          · rw [w, q] at hb; cases hb
      · rcases fx with q | q
        · rw [w, q] at hb; cases hb
        · exact n2 (w.trans q)
/-- a piece of content -/
theorem rl_piece (J0 : jb dA h0 sc sv0 ws0) (O : rOp h0 op od) {P : Nat → Option Nat → Option Nat → Nat → Nat → (Int32 → hm_T → hz_T → Prop) → hm_T → hz_T → Prop} {PE : Option Nat → Nat → List Int32 → Nat → List wn → Bool → pR} {N : Nat} (hP : rImp dA h0 z0 sv0 op od y tt xs rd sc P PE (fun p dep => xs.getD p 0 = 60 ∧ a_small (xs.getD (p + 1) 0) = true ∧ dep ≤ 5 ∧ 6 ≤ N + dep)) : rImp dA h0 z0 sv0 op od y tt xs rd sc (w_MarkupReader_readPiece dA P) (p_piece PE xs) (fun _ dep => 1 ≤ dep ∧ dep ≤ 6 ∧ 6 ≤ N + dep) := by
  intro h z p d as sv ws ov W par l lab c s K D hl hp hL nl fl hll hW hpx hG hc hs kok kerr
  have hlen := D.2.1.2.1
  have hcx := D.2.1.2.2
  have hop := D.hop J0 O hp
  have ep : p_piece PE xs par (rDep W od par) lab p W ov = if xs.getD p 0 ≠ 60 then p_text xs par (rDep W od par) lab p W ov else if xs.getD (p + 1) 0 = 33 then p_com xs par (rDep W od par) lab p W ov else if a_small (xs.getD (p + 1) 0) = false then .inl (p + 1) else if 5 < rDep W od par then .inl p else PE par (rDep W od par) lab p W ov := rfl
  unfold w_MarkupReader_readPiece
  refine cg_I_of D.1 rfl (cg_c_of D.1 (rl_seen D.1 D.2.1 (by omega) ?_))
  have h1l := getD_lt hcx p
  have h2l := getD_lt hcx (p + 1)
  by_cases g0 : xs.getD p 0 = 60
  · rw [if_neg (fun w => w g0)] at ep
    refine if_yes (by rw [g0]; rfl) (cg_I_of D.1 rfl (cg_c_of D.1 ?_))
    rw [nI_1]
    refine rl_seen D.1 D.2.1 (by omega) ?_
    by_cases g1 : xs.getD (p + 1) 0 = 33
    · rw [if_pos g1] at ep
      rw [ep] at hc hs kok kerr
      have hr : 10 ≤ c ∧ 600 ≤ s := by
        have hd := p_dash_ge (xs := xs) (p := p + 4)
        cases e : p_com xs par (rDep W od par) lab p W ov with
        | inl e9 => rw [e] at hc hs; exact ⟨Nat.le_trans (by simp only [pcC]; omega) hc, Nat.le_trans (by simp only [pcS]; omega) hs⟩
        | inr x =>
          obtain ⟨q, W1, ov1⟩ := x
          have hq : p + 1 ≤ q := by
            have e9 := e
            unfold p_com at e9
            by_cases a1 : xs.getD (p + 2) 0 = 45
            · rw [if_neg (fun w => w a1)] at e9
              by_cases a2 : xs.getD (p + 3) 0 = 45
              · rw [if_neg (fun w => w a2)] at e9
                have := getD_pos a2 (by decide)
                have := hd (by omega)
                by_cases a3 : xs.getD (p_dash xs (p + 4)) 0 = 45
                · rw [if_neg (fun w => w a3)] at e9
                  by_cases a4 : xs.getD (p_dash xs (p + 4) + 1) 0 = 45
                  · rw [if_neg (fun w => w a4)] at e9
                    by_cases a5 : xs.getD (p_dash xs (p + 4) + 2) 0 = 62
                    · rw [if_neg (fun w => w a5)] at e9
                      cases e9
                      omega
                    · rw [if_pos a5] at e9; cases e9
                  · rw [if_pos a4] at e9; cases e9
                · rw [if_pos a3] at e9; cases e9
              · rw [if_pos a2] at e9; cases e9
            · rw [if_pos a1] at e9; cases e9
          rw [e] at hc hs
          exact ⟨Nat.le_trans (by simp only [pcC]; omega) hc, Nat.le_trans (by simp only [pcS]; omega) hs⟩
      refine if_yes (by rw [g1]; rfl) (cg_c_of D.1 (cg_rm_of (c1 := 10) (s1 := 600) hr.1 hr.2 (rl_com J0 O D hl hp hL nl fl hW g0 g1 (Nat.le_refl _) (Nat.le_refl _) (fun q W1 ov1 e h1 z1 d1 as1 sv1 ws1 D1 l1 a9 => ⟨Or.inr rfl, kok q W1 ov1 e h1 z1 d1 as1 sv1 ws1 D1 l1 a9⟩) (fun e w h1 z1 sv1 p1 tm1 ws1 a1 a2 a3 a4 a5 => ⟨Or.inl rfl, kerr e w h1 z1 sv1 p1 tm1 ws1 a1 a2 a3 a4 a5⟩))))
    · rw [if_neg g1] at ep
      refine if_no (fun w => g1 ((nI_eq (b := 33) (by omega) (by decide)).mp w)) (cp_small h2l ?_)
      cases g2 : a_small (xs.getD (p + 1) 0) with
      | false =>
        rw [if_pos g2] at ep
        rw [if_neg (show ¬ false = true by decide)]
        refine if_yes rfl (cg_I_of D.1 rfl (cg_c_of D.1 ?_))
        rw [nI_1]
        exact rl_fail' D (fun h1 z1 sv1 p1 tm1 ws1 a1 a2 a3 a4 a5 => ⟨Or.inl rfl, kerr _ ep h1 z1 sv1 p1 tm1 ws1 a1 a2 a3 a4 a5⟩)
      | true =>
        rw [if_neg (by rw [g2]; decide)] at ep
        rw [if_pos (show true = true from rfl)]
        refine if_no (by decide) ?_
        rcases hop with ⟨w1, w2⟩ | ⟨o, fs, v, w1, w2, w3, w4⟩
        · exact absurd w2 (fun w => by
            have := (nI_eq (a := rDep W od par) (b := 0) (by have := hG.2; omega) (by decide)).mp w
            have := hG.1
            omega)
        · rw [w1]
          have ev : v = nI (rDep W od par - 1) := by
            refine nI_prd ?_
            rw [← w4, show rDep W od par - 1 + 1 = rDep W od par by have := hG.1; omega]
          refine cg_d_of (cg_I_of w2 w3 ?_)
          by_cases g3 : 5 < rDep W od par
          · rw [if_pos g3] at ep
            refine if_no (by rw [ev]; have := hG.2; exact nI_nlt (b := 5) (by omega) (by omega)) (cg_I_of D.1 rfl (cg_c_of D.1 ?_))
            exact rl_fail' D (fun h1 z1 sv1 p1 tm1 ws1 a1 a2 a3 a4 a5 => ⟨Or.inl rfl, kerr _ ep h1 z1 sv1 p1 tm1 ws1 a1 a2 a3 a4 a5⟩)
          · rw [if_neg g3] at ep
            rw [ep] at hc hs kok kerr
            refine if_yes (by rw [ev]; exact nI_lt (b := 5) (by omega) (by decide)) (cg_c_of D.1 (cg_rm_of (c1 := c) (s1 := s) (Nat.le_refl _) (Nat.le_refl _) ?_))
            rw [← w1]
            exact hP h z p d as sv ws ov W par l lab c s _ D hl hp hL nl fl hll hW hpx ⟨g0, g2, by omega, hG.2.2⟩ hc hs (fun q W1 ov1 e h1 z1 d1 as1 sv1 ws1 D1 l1 a9 => ⟨Or.inr rfl, kok q W1 ov1 e h1 z1 d1 as1 sv1 ws1 D1 l1 a9⟩) (fun e w h1 z1 sv1 p1 tm1 ws1 a1 a2 a3 a4 a5 => ⟨Or.inl rfl, kerr e w h1 z1 sv1 p1 tm1 ws1 a1 a2 a3 a4 a5⟩)
  · rw [if_pos g0] at ep
    rw [ep] at hc hs kok kerr
    exact if_no (fun w => g0 ((nI_eq (b := 60) (by omega) (by decide)).mp w)) (cg_c_of D.1 (rl_text J0 O D hl hp hL nl fl hW hpx g0 hc hs kok kerr))
end PL10
