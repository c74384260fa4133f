-- reading: a piece of content
def p_piece (PE : Option Nat → Nat → List Int32 → Nat → List wn → Bool → pR) (xs : List Nat) (par : Option Nat) (dep : Nat) (lab : List Int32) (p : Nat) (W : List wn) (ov : Bool) : pR :=
  if xs.getD p 0 ≠ 60 then p_text xs par dep lab p W ov else if xs.getD (p + 1) 0 = 33 then p_com xs par dep lab p W ov else if a_small (xs.getD (p + 1) 0) = false then .inl (p + 1) else if 5 < dep then .inl p else PE par dep lab p W ov
/-- what reading may take: cells, slots -/
def pcC (r : pR) (p : Nat) : Nat := match r with
  | .inl e => 40 * (e - p) + 40
  | .inr (q, _) => 40 * (q - p) - 2
def pcS (r : pR) (p : Nat) : Nat := match r with
  | .inl e => 2600 * (e - p) + 2600
  | .inr (q, _) => 2600 * (q - p) - 40
/-- a list that has grown -/
def aext (as as1 : List Nat) : Prop := ∀ i, i < as.length → as1.getD i 0 = as.getD i 0
/-- a method of the class that reads a node does as this says, where G holds of the place and the depth -/
def rImp (dA : Nat → ClassId) (h0 : hm_T) (z0 : hz_T) (sv0 : Nat) (op : Option Nat) (od y tt : Nat) (xs : List Nat) (rd sc : Nat) (F : Nat → Option Nat → Option Nat → Nat → Nat → (Int32 → hm_T → hz_T → Prop) → hm_T → hz_T → Prop) (f : Option Nat → Nat → List Int32 → Nat → List wn → Bool → pR) (G : Nat → Nat → Prop) : Prop :=
  ∀ (h : hm_T) (z : hz_T) (p d : Nat) (as : List Nat) (sv : Nat) (ws : List Nat) (ov : Bool) (W : List wn) (par : Option Nat) (l : Nat) (lab : List Int32) (c s : Nat) (K : Int32 → hm_T → hz_T → Prop), rRD dA h0 z0 sv0 op y tt xs rd sc eNo h z p (-1) d as sv ws (tmI ov) W → as.length = W.length → (∀ j, par = some j → j < W.length) → cp_lab dA h l lab → ¬ rQ eNo y rd d sc sv as l → fr0 h0 sv0 l → lab.length ≤ 18 + rDep W od par → W.length ≤ p → p < xs.length → G p (rDep W od par) → pcC (f par (rDep W od par) lab p W ov) p ≤ c → pcS (f par (rDep W od par) lab p W ov) p ≤ s →
    (∀ q W1 ov1, f par (rDep W od par) lab p W ov = .inr (q, W1, ov1) → ∀ (h1 : hm_T) (z1 : hz_T) (d1 : Nat) (as1 : List Nat) (sv1 : Nat) (ws1 : List Nat), rRD dA h0 z0 sv0 op y tt xs rd sc eNo h1 z1 q (-1) d1 as1 sv1 ws1 (tmI ov1) W1 → as1.length = W1.length → aext as as1 → K 1 h1 z1) →
    (∀ e, f par (rDep W od par) lab p W ov = .inl e → rEr dA h0 z0 sv0 y tt rd sc e (K 0)) → F y (rPar op as (0, par, 0, [], [], [])) (some l) c s K h z
theorem p_dash_ge {xs : List Nat} {p : Nat} (hp : p ≤ xs.length) : p ≤ p_dash xs p ∧ p_dash xs p ≤ xs.length := by
  unfold p_dash
  cases e : mp_fst (fun q => decide (xs.getD q 0 = 45 ∧ xs.getD (q + 1) 0 = 45)) (xs.length - p) p with
  | none => exact ⟨hp, Nat.le_refl _⟩
  | some q =>
    have := (mp_fst_some _ _ e).1
    simp only []
    omega
section PL9
variable {dA : Nat → ClassId} {h0 : hm_T} {z0 : hz_T} {sv0 : Nat} {op : Option Nat} {od y tt : Nat} {xs : List Nat} {rd sc : Nat} {ws0 : List Nat}
/-- the node's text written: its world -/
theorem rRD.text {h : hm_T} {z : hz_T} {p d : Nat} {wr : Int32} {as : List Nat} {sv : Nat} {ws : List Nat} {tm : Int32} {W : List wn} {x aq : Nat} {fs : List Value} (D : rRD dA h0 z0 sv0 op y tt xs rd sc (fun b => b = x ∨ b = aq) h z p wr d as sv ws tm W) (c1 : h x = some (.inr (8, fs))) (fx : fr0 h0 sv0 x) (xr : x ≠ rd) (xd : as ≠ [] → x ≠ d) {e : va_E} : rRD dA h0 z0 sv0 op y tt xs rd sc (fun b => b = x ∨ b = aq) (hm_u h x e) z p wr d as sv ws tm W := by
  have D0 := D
  obtain ⟨D1, D2, D3, D4, r⟩ := D
  obtain ⟨mb, nb, fb, b1, b2, br⟩ := id D3
  have M : hm_mo h (hm_u h x e) (fun b => b = x) := hm_mo.u rfl
  exact D0.own (Y := fun b => b = x) (M _ _ D1 (hm_ne D1 c1 rfl)) (D3.mo M (hm_ne b1 c1 rfl) (hm_ne b2 c1 rfl)) (Or.inl rfl) M (fun b w => Or.inr (Or.inr (Or.inr ⟨Or.inl w, by rw [w]; exact ⟨fx, xr, xd⟩⟩))) hz_mo.refl r.2.2.2.2.2.2.2.2 (fun b f hb w => Or.inl w)
theorem rl_comL {z : hz_T} {d : Nat} {as : List Nat} {sv : Nat} {ws : List Nat} {ov : Bool} {W : List wn} {par l' : Option Nat} {p0 c s : Nat} {K : Int32 → hm_T → hz_T → Prop} : ∀ (r fu q : Nat) (h : hm_T), q + r = xs.length → r < fu → q < 2 ^ 28 → rRD dA h0 z0 sv0 op y tt xs rd sc eNo h z q (-1) d as sv ws (tmI ov) W → (∀ h1, hm_mo h h1 (fun b => b = y) → rRD dA h0 z0 sv0 op y tt xs rd sc eNo h1 z (p_dash xs q) (-1) d as sv ws (tmI ov) W → w_MarkupReader_readComment_98 dA y K par l' (nI p0) c s h1 z) → w_MarkupReader_readComment_43 dA y K fu par l' (nI p0) c s h z := by
  intro r
  induction r with
  | zero =>
    intro fu q h hq hf hq2 D k
    obtain ⟨fu, rfl⟩ : ∃ f, fu = f + 1 := ⟨fu - 1, by omega⟩
    obtain ⟨⟨u, hu⟩, hl, hcx⟩ := id D.2.1
    have ed : p_dash xs q = q := by
      unfold p_dash
      rw [show xs.length - q = 0 by omega]
      show xs.length = q
      omega
    unfold w_MarkupReader_readComment_43
    refine cg_I_of D.1 rfl (cg_R_ref D.1 rfl (cg_d_of ⟨u, xs, hu, if_yes (nI_le (by omega) (by omega)) (k h hm_mo.refl (by rw [ed]; exact D))⟩))
  | succ r ih =>
    intro fu q h hq hf hq2 D k
    obtain ⟨fu, rfl⟩ : ∃ f, fu = f + 1 := ⟨fu - 1, by omega⟩
    obtain ⟨⟨u, hu⟩, hl, hcx⟩ := id D.2.1
    have h1l := getD_lt hcx q
    have h2l := getD_lt hcx (q + 1)
    have e45 : ∀ c : Nat, c < 128 → (nI c = 45 ↔ c = 45) := fun c h => nI_eq (b := 45) (by omega) (by decide)
    have es : xs.length - q = (xs.length - (q + 1)) + 1 := by omega
    have step : ¬ (xs.getD q 0 = 45 ∧ xs.getD (q + 1) 0 = 45) → w_MarkupReader_readComment_85 dA y K (w_MarkupReader_readComment_43 dA y K fu) par l' (nI p0) c s h z := fun w => by
      have ed : p_dash xs q = p_dash xs (q + 1) := by
        unfold p_dash
        rw [es]
        simp only [mp_fst, w, decide_false, Bool.false_eq_true, if_false]
      unfold w_MarkupReader_readComment_85
      refine cg_I_of D.1 rfl (cg_p_of D.1 (show 1 < 6 by decide) ?_)
      rw [nI_1]
      have M : ∀ e, hm_mo h (hm_u h y e) (fun b => b = y) := fun e => hm_mo.u rfl
      exact ih fu (q + 1) _ (by omega) (by omega) (by omega) (D.mo1 hm_s (M _) hz_mo.refl (tmI_01 ov)) (fun h1 M1 D1 => k h1 ((M _).trans M1) (by rw [ed]; exact D1))
    unfold w_MarkupReader_readComment_43
    refine cg_I_of D.1 rfl (cg_R_ref D.1 rfl (cg_d_of ⟨u, xs, hu, if_no (nI_ge (by omega) (by omega)) (cg_I_of D.1 rfl (cg_c_of D.1 (rl_seen D.1 D.2.1 (by omega) ?_)))⟩))
    by_cases q1 : xs.getD q 0 = 45
    · refine if_yes ((e45 _ h1l).mpr q1) (cg_I_of D.1 rfl (cg_c_of D.1 ?_))
      rw [nI_1]
      refine rl_seen D.1 D.2.1 (by omega) ?_
      by_cases q2 : xs.getD (q + 1) 0 = 45
      · refine if_yes ((e45 _ h2l).mpr q2) (k h hm_mo.refl ?_)
        have ed : p_dash xs q = q := by
          unfold p_dash
          rw [es]
          simp only [mp_fst, q1, q2, and_self, decide_true, if_true]
        rw [ed]; exact D
      · exact if_no (fun w => q2 ((e45 _ h2l).mp w)) (step (fun w => q2 w.2))
    · exact if_no (fun w => q1 ((e45 _ h1l).mp w)) (step (fun w => q1 w.1))
/-- a comment -/
theorem rl_com (J0 : jb dA h0 sc sv0 ws0) (O : rOp h0 op od) {h : hm_T} {z : hz_T} {p d : Nat} {as : List Nat} {sv : Nat} {ws : List Nat} {ov : Bool} {W : List wn} {par : Option Nat} {l : Nat} {lab : List Int32} {c s : Nat} {K : Int32 → hm_T → hz_T → Prop} (D : rRD dA h0 z0 sv0 op y tt xs rd sc eNo h z p (-1) d as sv ws (tmI ov) W) (hl : as.length = W.length) (hp : ∀ j, par = some j → j < W.length) (hL : cp_lab dA h l lab) (nl : ¬ rQ eNo y rd d sc sv as l) (fl : fr0 h0 sv0 l) (hW : W.length ≤ p) (g0 : xs.getD p 0 = 60) (g1 : xs.getD (p + 1) 0 = 33) (hc : 10 ≤ c) (hs : 600 ≤ s)
    (kok : ∀ q W1 ov1, p_com xs par (rDep W od par) lab p W ov = .inr (q, W1, ov1) → ∀ (h1 : hm_T) (z1 : hz_T) (d1 : Nat) (as1 : List Nat) (sv1 : Nat) (ws1 : List Nat), rRD dA h0 z0 sv0 op y tt xs rd sc eNo h1 z1 q (-1) d1 as1 sv1 ws1 (tmI ov1) W1 → as1.length = W1.length → aext as as1 → K 1 h1 z1)
    (kerr : ∀ e, p_com xs par (rDep W od par) lab p W ov = .inl e → rEr dA h0 z0 sv0 y tt rd sc e (K 0)) : w_MarkupReader_readComment dA y (rPar op as (0, par, 0, [], [], [])) (some l) c s K h z := by
  have hlen := D.2.1.2.1
  have l0 := getD_pos g0 (by decide)
  have l1 := getD_pos g1 (by decide)
  have keep : ∀ {h1 : hm_T}, hm_mo h h1 (fun b => b = y) → cp_lab dA h1 l lab := fun M => hL.mo M (fun w => nl (Or.inl w))
  have ep : p_com xs par (rDep W od par) lab p W ov = if xs.getD (p + 2) 0 ≠ 45 then .inl (p + 2) else if xs.getD (p + 3) 0 ≠ 45 then .inl (p + 3) else if xs.getD (p_dash xs (p + 4)) 0 ≠ 45 then .inl (p_dash xs (p + 4)) else if xs.getD (p_dash xs (p + 4) + 1) 0 ≠ 45 then .inl (p_dash xs (p + 4) + 1) else if xs.getD (p_dash xs (p + 4) + 2) 0 ≠ 62 then .inl (p_dash xs (p + 4) + 2) else .inr (p_dash xs (p + 4) + 3, W ++ [(3, par, rDep W od par, lab, [], (xs.drop (p + 4)).take (p_dash xs (p + 4) - (p + 4)))], ov || decide (20 < p_dash xs (p + 4) - (p + 4))) := rfl
  unfold w_MarkupReader_readComment w_MarkupReader_readComment_36
  have Dy : ∀ {h1 : hm_T} {p1 : Nat}, h1 y = some (r6c tt p1 (-1) rd sc (tmI ov)) → hm_mo h h1 (fun b => b = y) → rRD dA h0 z0 sv0 op y tt xs rd sc eNo h1 z p1 (-1) d as sv ws (tmI ov) W := fun R M => D.mo1 R M hz_mo.refl (tmI_01 ov)
  refine cg_c_of D.1 (rl_take (c := 60) D.1 D.2.1 (by omega) (by decide) (fun _ h1 R1 M1 => ?_) (fun w => absurd g0 w))
  refine if_no (by decide) (cg_c_of R1 (rl_take (c := 33) R1 D.2.1 (by omega) (by decide) (fun _ h2 R2 M2 => ?_) (fun w => absurd g1 w)))
  have M02 := M1.trans M2
  refine if_no (by decide) (cg_c_of R2 (rl_take (c := 45) R2 D.2.1 (by omega) (by decide) (fun g2 h3 R3 M3 => ?_) (fun g2 h3 R3 M3 => if_yes rfl ((D.mo1 R3 (M02.trans M3) hz_mo.refl (tmI_01 ov)).er rfl (kerr (p + 1 + 1) (by rw [ep, if_pos g2]))))))
  have l2 := getD_pos g2 (by decide)
  rw [if_neg (fun w => w g2)] at ep
  have M03 := M02.trans M3
  refine if_no (by decide) (cg_c_of R3 (rl_take (c := 45) R3 D.2.1 (by omega) (by decide) (fun g3 h4 R4 M4 => ?_) (fun g3 h4 R4 M4 => if_yes rfl ((D.mo1 R4 (M03.trans M4) hz_mo.refl (tmI_01 ov)).er rfl (kerr (p + 1 + 1 + 1) (by rw [ep, if_pos g3]))))))
  have l3 := getD_pos g3 (by decide)
  rw [if_neg (fun w => w g3)] at ep
  have M04 := M03.trans M4
  have hq := p_dash_ge (xs := xs) (p := p + 4) (by omega)
  refine if_no (by decide) (cg_I_of R4 rfl (rl_comL (xs.length - (p + 1 + 1 + 1 + 1)) mF (p + 1 + 1 + 1 + 1) h4 (by omega) (by unfold mF; omega) (by omega) (Dy R4 M04) (fun h5 M5 D5 => ?_)))
  rw [show p + 1 + 1 + 1 + 1 = p + 4 by omega] at D5
  generalize hqq : p_dash xs (p + 4) = q at *
  have M05 := M04.trans M5
  unfold w_MarkupReader_readComment_98 w_MarkupReader_readComment_145
  refine cg_c_of D5.1 (cg_rm_of (c1 := 3) (s1 := 212) (by omega) (by omega) (rl_make' (kd := 3) D5 J0 O hp hl (by omega) (keep M05) nl fl (Nat.le_refl _) (Nat.le_refl _) (fun h6 x aq e1 e2 d1 D6 c6 z1 z2 j6 fx fa nQ L6 => ?_)))
  obtain ⟨⟨u6, hu6⟩, hl6, hcx6⟩ := id D6.2.1
  refine cg_R_ref D6.1 rfl (cg_I_of D6.1 rfl (cg_d_of (cg_k_of (by omega) (by omega) ⟨u6, xs, p + 1 + 1 + 1 + 1, q, hu6, rfl, rfl, by omega, by omega, by omega, hcx6, fun h7 z7 t7 u7 k7 k8 k9 => ?_⟩)))
  have D7 := D6.mo1 (h1 := h7) (z1 := z7) (k8 _ _ D6.1) (fun b e hb _ => k8 b e hb) k9 (tmI_01 ov)
  have c7 := k8 _ _ c6
  have ne : (as ++ [x]) ≠ [] := by simp
  have xr : x ≠ rd := fun w => nQ x (Or.inl rfl) (Or.inr (Or.inl w))
  have xd : x ≠ d1 := fun w => nQ x (Or.inl rfl) (Or.inr (Or.inr (Or.inl ⟨w, ne⟩)))
  refine cg_d_of (cg_p_of c7 (show 7 < 9 by decide) ?_)
  have D8 := fun e => D7.text (e := e) c7 fx xr (fun _ => xd)
  have M8 : ∀ e, hm_mo h7 (hm_u h7 x e) (fun b => b = x) := fun e => hm_mo.u rfl
  have R8 := fun e => (D8 e).1
  have jl : ja dA h7 aq (dA 99) [] := j6.mo (Y := fun _ => False) (fun b e hb _ => k8 b e hb) id (fun w => absurd rfl w)
  have ax : aq ≠ x := by obtain ⟨mo, w1, _⟩ := id jl; exact hm_ne w1 c7 rfl
  have jl8 := fun e => jl.mo (M8 e) ax (fun w => absurd rfl w)
  have L8 : ∀ e, cp_lab dA (hm_u h7 x e) l lab := fun e => (L6.mo (Y := fun _ => False) (fun b e hb _ => k8 b e hb) id).mo (M8 e) (by obtain ⟨f, w1, _⟩ := L6; exact hm_ne (k8 _ _ w1) c7 rfl)
  have tv : ((xs.drop (p + 1 + 1 + 1 + 1)).take (q - (p + 1 + 1 + 1 + 1))).length = q - (p + 4) := by rw [List.length_take, List.length_drop]; omega
  -- the three last signs
  have fin : ∀ (w0 : Int32) (c s : Nat), (w0 = 0 ∨ w0 = 1) → w0 = tmI (ov || decide (20 < q - (p + 4))) → ∀ e, e = .inr (8, [.int (nI 3), va_rf (rPar op (as ++ [x]) (0, par, 0, [], [], [])), .int (nI (rDep W od par)), .ref l, .ref aq, .int (-1), .int (-1), .ref t7, .ref e2]) → w_MarkupReader_readComment_150 dA y K w0 c s (hm_u h7 x e) z7 := by
    intro w0 c s hw0 hw e he
    have Dn := (D8 e).leaf (kd := 3) (dep := rDep W od par) (lab := lab) (v := (xs.drop (p + 4)).take (q - (p + 4))) hl hp (by rw [he]; exact hm_s) ⟨u7, by rw [show p + 1 + 1 + 1 + 1 = p + 4 by omega] at k7; exact k7⟩ (by obtain ⟨u, w⟩ := z2; exact ⟨u, k9 _ _ w⟩) (jl8 e) fx fa fl nQ (L8 e)
    unfold w_MarkupReader_readComment_150 w_MarkupReader_readComment_184
    refine ⟨hw0, cg_p_of Dn.1 (show 5 < 6 by decide) ?_⟩
    have Dm := Dn.mo1 (h1 := hm_u (hm_u h7 x e) y (r6c tt q (-1) rd sc w0)) (p1 := q) (tm1 := w0) hm_s (hm_mo.u rfl) hz_mo.refl hw0
    refine cg_c_of hm_s (rl_take' (c := 45) Dm (by omega) (by decide) (fun g5 h9 D9 => ?_) (fun g5 => ?_))
    · rw [if_neg (fun w => w g5)] at ep
      refine if_no (by decide) (cg_c_of D9.1 (rl_take' (c := 45) D9 (by omega) (by decide) (fun g6 h10 D10 => ?_) (fun g6 h1 z1 sv1 p1 tm1 ws1 a1 a2 a3 a4 a5 => if_yes rfl (kerr (q + 1) (by rw [ep, if_pos g6]) h1 z1 sv1 p1 tm1 ws1 a1 a2 a3 a4 a5))))
      rw [if_neg (fun w => w g6)] at ep
      refine if_no (by decide) (cg_c_of D10.1 (rl_take' (c := 62) D10 (by omega) (by decide) (fun g7 h11 D11 => ?_) (fun g7 h1 z1 sv1 p1 tm1 ws1 a1 a2 a3 a4 a5 => if_yes rfl (kerr (q + 1 + 1) (by rw [ep, if_pos g7]) h1 z1 sv1 p1 tm1 ws1 a1 a2 a3 a4 a5))))
      rw [if_neg (fun w => w g7)] at ep
      refine if_no (by decide) (kok (q + 3) _ _ ep h11 z7 d1 (as ++ [x]) sv ws ?_ (by rw [List.length_append, List.length_append, hl]; rfl) (fun i hi => getD_app_l hi))
      rw [← hw]
      exact D11
    · intro h1 z1 sv1 p1 tm1 ws1 a1 a2 a3 a4 a5
      exact if_yes rfl (kerr q (by rw [ep, if_pos g5]) h1 z1 sv1 p1 tm1 ws1 a1 a2 a3 a4 a5)
  refine cg_I_of (R8 _) rfl ?_
  cases ov with
  | true => exact if_no (by decide) (fin 1 _ _ (Or.inr rfl) (by rw [Bool.true_or]; rfl) _ rfl)
  | false =>
    refine if_yes rfl (cg_d_of (cg_R_ref hm_s rfl (cg_d_of ⟨u7, _, k7, ?_⟩)))
    rw [tv]
    by_cases w : q - (p + 4) ≤ 20
    · exact if_yes (nI_le (b := 20) w (by decide)) (fin 0 _ _ (Or.inl rfl) (by rw [Bool.false_or, decide_eq_false (by omega)]; rfl) _ rfl)
    · exact if_no (nI_ge (a := 20) (by omega) (by omega)) (fin 1 _ _ (Or.inr rfl) (by rw [Bool.false_or, decide_eq_true (by omega)]; rfl) _ rfl)
end PL9
-- reading: the text of a piece; the piece
theorem nI_prd {n : Nat} {v : Int32} (h : nI (n + 1) = v + 1) : v = nI n := by
  rw [← nI_1] at h
  have h2 : nI n + 1 - 1 = v + 1 - 1 := by rw [h]
  rw [Int32.add_sub_cancel, Int32.add_sub_cancel] at h2
  exact h2.symm
theorem vE_gt {xs : List Nat} {stop p f : Nat} (hp : p < xs.length) (h1 : xs.getD p 0 ≠ 60) (h2 : xs.getD p 0 ≠ stop) {q : Nat} {v : List Nat} (e : p_val xs stop (f + 1) p [] = .inr (q, v)) : p < q := by
  unfold p_val at e
  rw [if_neg (by omega), if_neg (fun w => w.elim h1 h2)] at e
  by_cases a2 : xs.getD p 0 = 38
  · rw [if_pos a2] at e
    cases ea : a_ent xs p with
    | none => rw [ea] at e; cases e
    | some x9 =>
      obtain ⟨c9, r9⟩ := x9
      rw [ea] at e
      have := a_ent_some ea
      have := (p_val_le _ _ _ (by omega) e).1
      omega
  · rw [if_neg a2] at e
    have := (p_val_le _ _ _ (by omega) e).1
    omega
theorem p_text_room {E p q c s : Nat} (h : p < q) (hE : E = q) (hc : 40 * (q - p) - 2 ≤ c) (hs : 2600 * (q - p) - 40 ≤ s) : 3 ≤ c ∧ 212 ≤ s ∧ 3 + 11 * (E + 1 - p) ≤ c - 3 ∧ 288 + 872 * (E + 1 - p) ≤ s - 212 := by omega
theorem p_text_roomE {E p c s : Nat} (h : p ≤ E) (hc : 40 * (E - p) + 40 ≤ c) (hs : 2600 * (E - p) + 2600 ≤ s) : 3 ≤ c ∧ 212 ≤ s ∧ 3 + 11 * (E + 1 - p) ≤ c - 3 ∧ 288 + 872 * (E + 1 - p) ≤ s - 212 := by omega
section PL10
variable {dA : Nat → ClassId} {h0 : hm_T} {z0 : hz_T} {sv0 : Nat} {op : Option Nat} {od y tt : Nat} {xs : List Nat} {rd sc : Nat} {ws0 : List Nat}
theorem rl_text (J0 : jb dA h0 sc sv0 ws0) (O : rOp h0 op od) {h : hm_T} {z : hz_T} {p d : Nat} {as : List Nat} {sv : Nat} {ws : List Nat} {ov : Bool} {W : List wn} {par : Option Nat} {l : Nat} {lab : List Int32} {c s : Nat} {K : Int32 → hm_T → hz_T → Prop} (D : rRD dA h0 z0 sv0 op y tt xs rd sc eNo h z p (-1) d as sv ws (tmI ov) W) (hl : as.length = W.length) (hp : ∀ j, par = some j → j < W.length) (hL : cp_lab dA h l lab) (nl : ¬ rQ eNo y rd d sc sv as l) (fl : fr0 h0 sv0 l) (hW : W.length ≤ p) (hpx : p < xs.length) (g0 : xs.getD p 0 ≠ 60) (hc : pcC (p_text xs par (rDep W od par) lab p W ov) p ≤ c) (hs : pcS (p_text xs par (rDep W od par) lab p W ov) p ≤ s)
    (kok : ∀ q W1 ov1, p_text xs par (rDep W od par) lab p W ov = .inr (q, W1, ov1) → ∀ (h1 : hm_T) (z1 : hz_T) (d1 : Nat) (as1 : List Nat) (sv1 : Nat) (ws1 : List Nat), rRD dA h0 z0 sv0 op y tt xs rd sc eNo h1 z1 q (-1) d1 as1 sv1 ws1 (tmI ov1) W1 → as1.length = W1.length → aext as as1 → K 1 h1 z1)
    (kerr : ∀ e, p_text xs par (rDep W od par) lab p W ov = .inl e → rEr dA h0 z0 sv0 y tt rd sc e (K 0)) : cg_rm c s (fun c59 s60 c61 s62 => w_MarkupReader_make dA y 2 (rPar op as (0, par, 0, [], [], [])) (some l) c59 s60 (fun v56 h57 z58 => (cg_c h57 6 y (cg_rm c61 s62 (fun c66 s67 c68 s69 => w_MarkupReader_readValue dA y 60 c66 s67 (fun v63 h64 z65 => (cg_d v56 (fun a70 => (cg_p h64 8 7 a70 (va_rf v63) (fun h71 => (cg_c h71 6 y (w_TextReader_failed6 dA y (fun v72 h73 z74 => (if v72 = 0 then (K 1 h73 z74) else (K 0 h73 z74))) h71 z65))))))) h57 z58)))) h z) := by
  have hlen := D.2.1.2.1
  have hx := fun e9 (w : p_val xs 60 200 p [] = .inl e9) => p_val_er (xs := xs) (stop := 60) 200 p [] w
  have hg := vE_ge (xs := xs) (stop := 60) 200 p []
  have ep : p_text xs par (rDep W od par) lab p W ov = match p_val xs 60 200 p [] with | .inl e => .inl e | .inr (q, v) => .inr (q, W ++ [(2, par, rDep W od par, lab, [], v)], ov || decide (20 < v.length)) := rfl
  have room : 3 ≤ c ∧ 212 ≤ s ∧ 3 + 11 * (vE (p_val xs 60 200 p []) + 1 - p) ≤ c - 3 ∧ 288 + 872 * (vE (p_val xs 60 200 p []) + 1 - p) ≤ s - 212 := by
    cases e : p_val xs 60 200 p [] with
    | inl e9 =>
      rw [e] at ep hg
      rw [ep] at hc hs
      exact p_text_roomE hg hc hs
    | inr x =>
      obtain ⟨q, v⟩ := x
      rw [e] at ep
      rw [ep] at hc hs
      exact p_text_room (vE_gt (f := 199) hpx g0 g0 e) rfl hc hs
  refine cg_rm_of room.1 room.2.1 (rl_make' (kd := 2) D J0 O hp hl (by omega) hL nl fl (Nat.le_refl _) (Nat.le_refl _) (fun h6 x aq e1 e2 d1 D6 c6 z1 z2 j6 fx fa nQ L6 => ?_))
  have ne : (as ++ [x]) ≠ [] := by simp
  have xr : x ≠ rd := fun w => nQ x (Or.inl rfl) (Or.inr (Or.inl w))
  have xd : x ≠ d1 := fun w => nQ x (Or.inl rfl) (Or.inr (Or.inr (Or.inl ⟨w, ne⟩)))
  obtain ⟨lf, L1, L2⟩ := id L6
  obtain ⟨mb6, nb6, fb6, s1, s2, sr⟩ := id D6.2.2.1
  obtain ⟨mo6, q1, _⟩ := id j6
  have nY : ∀ {b : Nat} {e : va_E}, h6 b = some e → (b = x ∨ b = aq ∨ b = l) → ¬ (b = y ∨ b = sc ∨ b = sv) := fun hb w k => nQ _ w (k.elim Or.inl (fun k => k.elim (fun k => Or.inr (Or.inr (Or.inr (Or.inl k)))) (fun k => Or.inr (Or.inr (Or.inr (Or.inr (Or.inl k)))))))
  refine cg_c_of D6.1 (cg_rm_of (c1 := c - 3) (s1 := s - 212) (Nat.le_refl _) (Nat.le_refl _) (rl_value (stop := 60) (by decide) (tmI_01 ov) (Nat.le_of_lt hpx) room.2.2.1 room.2.2.2 D6.1 D6.2.1 D6.2.2.1 (fun q v e h7 z7 sv7 t7 R7 j7 hs7 M7 Z7 k7 => ?_) (fun e9 e h7 z7 sv7 t7 p7 tm7 ws7 R7 j7 hs7 M7 Z7 k7 => ?_)))
  · rw [e] at ep
    have c7 := M7 _ _ c6 (nY c6 (Or.inl rfl))
    rw [tm_val] at R7
    have D7 := D6.mo R7 j7 hs7 M7 Z7 (tmI_01 _)
    refine cg_d_of (cg_p_of c7 (show 7 < 9 by decide) ?_)
    have D8 := D7.text (e := .inr (8, [.int (nI 2), va_rf (rPar op (as ++ [x]) (0, par, 0, [], [], [])), .int (nI (rDep W od par)), .ref l, .ref aq, .int (-1), .int (-1), .ref t7, .ref e2])) c7 fx xr (fun _ => xd)
    have M8 : ∀ e, hm_mo h7 (hm_u h7 x e) (fun b => b = x) := fun e => hm_mo.u rfl
    have jl7 := j6.mo M7 (nY q1 (Or.inr (Or.inl rfl))) (fun w => absurd rfl w)
    have ax : aq ≠ x := hm_ne q1 c6 rfl
    have L8 : ∀ e, cp_lab dA (hm_u h7 x e) l lab := fun e => (L6.mo M7 (nY L1 (Or.inr (Or.inr rfl)))).mo (M8 e) (hm_ne L1 c6 rfl)
    have nQ7 : ∀ b, (b = x ∨ b = aq ∨ b = l) → ¬ rQ eNo y rd d1 sc sv7 (as ++ [x]) b := fun b w k => by
      have ex : ∃ e, h6 b = some e := by
        rcases w with w | w | w <;> subst w
        · exact ⟨_, c6⟩
        · exact ⟨_, q1⟩
        · exact ⟨_, L1⟩
      obtain ⟨e9, hb⟩ := ex
      rcases k with k | k | k | k | k | k
      · exact nQ b w (Or.inl k)
      · exact nQ b w (Or.inr (Or.inl k))
      · exact nQ b w (Or.inr (Or.inr (Or.inl k)))
      · exact nQ b w (Or.inr (Or.inr (Or.inr (Or.inl k))))
      · rcases hs7 with q | q
        · exact nQ b w (Or.inr (Or.inr (Or.inr (Or.inr (Or.inl (k.trans q))))))
        · rw [k, q] at hb; cases hb
      · exact k
    have Dn := D8.leaf (kd := 2) (dep := rDep W od par) (lab := lab) (v := v) hl hp hm_s k7 (by obtain ⟨u, w⟩ := z2; exact ⟨u, Z7 _ _ w⟩) (jl7.mo (M8 _) ax (fun w => absurd rfl w)) fx fa fl nQ7 (L8 _)
    exact cg_c_of Dn.1 (rl_failed0 Dn.1 (if_yes rfl (kok q _ _ ep _ _ _ _ _ _ Dn (by rw [List.length_append, List.length_append, hl]; rfl) (fun i hi => getD_app_l hi))))
  · rw [e] at ep
    have c7 := M7 _ _ c6 (nY c6 (Or.inl rfl))
    refine cg_d_of (cg_p_of c7 (show 7 < 9 by decide) ?_)
    have xy : y ≠ x := hm_ne R7 c7 rfl
    obtain ⟨mb7, nb7, fb7, a1, a2, ar⟩ := id j7
    have M8 : ∀ e, hm_mo h7 (hm_u h7 x e) (fun b => b = x) := fun e => hm_mo.u rfl
    have R8 := fun e => M8 e _ _ R7 xy
    have D6' := D6
    obtain ⟨D1, D2, D3, D4, D5, E6, E7, E8, E9, E10, E11, E12, E13⟩ := D6
    refine cg_c_of (R8 _) (rl_failed1 (R8 _) (by have := hx e9 e; omega) (if_no (by decide) (kerr e9 ep _ _ sv7 p7 tm7 ws7 (R8 _) (j7.mo (M8 _) (hm_ne a1 c7 rfl) (hm_ne a2 c7 rfl)) ?_ ?_ (E8.trans Z7))))
    · exact sv_chain (Y := fun b => b = sc ∨ b = sv0) (sv := sv0) E7 (fun b w => w.elim (fun w => Or.inr (by rw [w, s1]; simp)) Or.inl) E9 hs7
    · intro b e9 hb n
      have n1 : b ≠ sc := fun w => n (Or.inl w)
      have n2 : b ≠ sv0 := fun w => n (Or.inr w)
      refine M8 _ b e9 (M7 b e9 (E7 b e9 hb n) (fun w => ?_)) (fun w => ?_)
      · rcases w with w | w | w
        · rw [w, E11] at hb; cases hb
        · exact n1 w
        · rcases E9 with q | q
          · exact n2 (w.trans q)
          · rw [w, q] at hb; cases hb
      · rcases fx with q | q
        · rw [w, q] at hb; cases hb
        · exact n2 (w.trans q)
/-- a piece of content -/
theorem rl_piece (J0 : jb dA h0 sc sv0 ws0) (O : rOp h0 op od) {P : Nat → Option Nat → Option Nat → Nat → Nat → (Int32 → hm_T → hz_T → Prop) → hm_T → hz_T → Prop} {PE : Option Nat → Nat → List Int32 → Nat → List wn → Bool → pR} {N : Nat} (hP : rImp dA h0 z0 sv0 op od y tt xs rd sc P PE (fun p dep => xs.getD p 0 = 60 ∧ a_small (xs.getD (p + 1) 0) = true ∧ dep ≤ 5 ∧ 6 ≤ N + dep)) : rImp dA h0 z0 sv0 op od y tt xs rd sc (w_MarkupReader_readPiece dA P) (p_piece PE xs) (fun _ dep => 1 ≤ dep ∧ dep ≤ 6 ∧ 6 ≤ N + dep) := by
  intro h z p d as sv ws ov W par l lab c s K D hl hp hL nl fl hll hW hpx hG hc hs kok kerr
  have hlen := D.2.1.2.1
  have hcx := D.2.1.2.2
  have hop := D.hop J0 O hp
  have ep : p_piece PE xs par (rDep W od par) lab p W ov = if xs.getD p 0 ≠ 60 then p_text xs par (rDep W od par) lab p W ov else if xs.getD (p + 1) 0 = 33 then p_com xs par (rDep W od par) lab p W ov else if a_small (xs.getD (p + 1) 0) = false then .inl (p + 1) else if 5 < rDep W od par then .inl p else PE par (rDep W od par) lab p W ov := rfl
  unfold w_MarkupReader_readPiece
  refine cg_I_of D.1 rfl (cg_c_of D.1 (rl_seen D.1 D.2.1 (by omega) ?_))
  have h1l := getD_lt hcx p
  have h2l := getD_lt hcx (p + 1)
  by_cases g0 : xs.getD p 0 = 60
  · rw [if_neg (fun w => w g0)] at ep
    refine if_yes (by rw [g0]; rfl) (cg_I_of D.1 rfl (cg_c_of D.1 ?_))
    rw [nI_1]
    refine rl_seen D.1 D.2.1 (by omega) ?_
    by_cases g1 : xs.getD (p + 1) 0 = 33
    · rw [if_pos g1] at ep
      rw [ep] at hc hs kok kerr
      have hr : 10 ≤ c ∧ 600 ≤ s := by
        have hd := p_dash_ge (xs := xs) (p := p + 4)
        cases e : p_com xs par (rDep W od par) lab p W ov with
        | inl e9 => rw [e] at hc hs; exact ⟨Nat.le_trans (by simp only [pcC]; omega) hc, Nat.le_trans (by simp only [pcS]; omega) hs⟩
        | inr x =>
          obtain ⟨q, W1, ov1⟩ := x
          have hq : p + 1 ≤ q := by
            have e9 := e
            unfold p_com at e9
            by_cases a1 : xs.getD (p + 2) 0 = 45
            · rw [if_neg (fun w => w a1)] at e9
              by_cases a2 : xs.getD (p + 3) 0 = 45
              · rw [if_neg (fun w => w a2)] at e9
                have := getD_pos a2 (by decide)
                have := hd (by omega)
                by_cases a3 : xs.getD (p_dash xs (p + 4)) 0 = 45
                · rw [if_neg (fun w => w a3)] at e9
                  by_cases a4 : xs.getD (p_dash xs (p + 4) + 1) 0 = 45
                  · rw [if_neg (fun w => w a4)] at e9
                    by_cases a5 : xs.getD (p_dash xs (p + 4) + 2) 0 = 62
                    · rw [if_neg (fun w => w a5)] at e9
                      cases e9
                      omega
                    · rw [if_pos a5] at e9; cases e9
                  · rw [if_pos a4] at e9; cases e9
                · rw [if_pos a3] at e9; cases e9
              · rw [if_pos a2] at e9; cases e9
            · rw [if_pos a1] at e9; cases e9
          rw [e] at hc hs
          exact ⟨Nat.le_trans (by simp only [pcC]; omega) hc, Nat.le_trans (by simp only [pcS]; omega) hs⟩
      refine if_yes (by rw [g1]; rfl) (cg_c_of D.1 (cg_rm_of (c1 := 10) (s1 := 600) hr.1 hr.2 (rl_com J0 O D hl hp hL nl fl hW g0 g1 (Nat.le_refl _) (Nat.le_refl _) (fun q W1 ov1 e h1 z1 d1 as1 sv1 ws1 D1 l1 a9 => ⟨Or.inr rfl, kok q W1 ov1 e h1 z1 d1 as1 sv1 ws1 D1 l1 a9⟩) (fun e w h1 z1 sv1 p1 tm1 ws1 a1 a2 a3 a4 a5 => ⟨Or.inl rfl, kerr e w h1 z1 sv1 p1 tm1 ws1 a1 a2 a3 a4 a5⟩))))
    · rw [if_neg g1] at ep
      refine if_no (fun w => g1 ((nI_eq (b := 33) (by omega) (by decide)).mp w)) (cp_small h2l ?_)
      cases g2 : a_small (xs.getD (p + 1) 0) with
      | false =>
        rw [if_pos g2] at ep
        rw [if_neg (show ¬ false = true by decide)]
        refine if_yes rfl (cg_I_of D.1 rfl (cg_c_of D.1 ?_))
        rw [nI_1]
        exact rl_fail' D (fun h1 z1 sv1 p1 tm1 ws1 a1 a2 a3 a4 a5 => ⟨Or.inl rfl, kerr _ ep h1 z1 sv1 p1 tm1 ws1 a1 a2 a3 a4 a5⟩)
      | true =>
        rw [if_neg (by rw [g2]; decide)] at ep
        rw [if_pos (show true = true from rfl)]
        refine if_no (by decide) ?_
        rcases hop with ⟨w1, w2⟩ | ⟨o, fs, v, w1, w2, w3, w4⟩
        · exact absurd w2 (fun w => by
            have := (nI_eq (a := rDep W od par) (b := 0) (by have := hG.2; omega) (by decide)).mp w
            have := hG.1
            omega)
        · rw [w1]
          have ev : v = nI (rDep W od par - 1) := by
            refine nI_prd ?_
            rw [← w4, show rDep W od par - 1 + 1 = rDep W od par by have := hG.1; omega]
          refine cg_d_of (cg_I_of w2 w3 ?_)
          by_cases g3 : 5 < rDep W od par
          · rw [if_pos g3] at ep
            refine if_no (by rw [ev]; have := hG.2; exact nI_nlt (b := 5) (by omega) (by omega)) (cg_I_of D.1 rfl (cg_c_of D.1 ?_))
            exact rl_fail' D (fun h1 z1 sv1 p1 tm1 ws1 a1 a2 a3 a4 a5 => ⟨Or.inl rfl, kerr _ ep h1 z1 sv1 p1 tm1 ws1 a1 a2 a3 a4 a5⟩)
          · rw [if_neg g3] at ep
            rw [ep] at hc hs kok kerr
            refine if_yes (by rw [ev]; exact nI_lt (b := 5) (by omega) (by decide)) (cg_c_of D.1 (cg_rm_of (c1 := c) (s1 := s) (Nat.le_refl _) (Nat.le_refl _) ?_))
            rw [← w1]
            exact hP h z p d as sv ws ov W par l lab c s _ D hl hp hL nl fl hll hW hpx ⟨g0, g2, by omega, hG.2.2⟩ hc hs (fun q W1 ov1 e h1 z1 d1 as1 sv1 ws1 D1 l1 a9 => ⟨Or.inr rfl, kok q W1 ov1 e h1 z1 d1 as1 sv1 ws1 D1 l1 a9⟩) (fun e w h1 z1 sv1 p1 tm1 ws1 a1 a2 a3 a4 a5 => ⟨Or.inl rfl, kerr e w h1 z1 sv1 p1 tm1 ws1 a1 a2 a3 a4 a5⟩)
  · rw [if_pos g0] at ep
    rw [ep] at hc hs kok kerr
    exact if_no (fun w => g0 ((nI_eq (b := 60) (by omega) (by decide)).mp w)) (cg_c_of D.1 (rl_text J0 O D hl hp hL nl fl hW hpx g0 hc hs kok kerr))
end PL10
-- reading: attributes, elements, content: what they are
def p_atts (xs : List Nat) : Nat → Nat → List (List Nat × List Nat) → Bool → Nat ⊕ (Nat × List (List Nat × List Nat) × Bool)
  | 0, p, _, _ => .inl p
  | f + 1, p, att, ov => if xs.getD p 0 = 32 then (match p_att xs (p + 1) att with
    | .inl e => .inl e
    | .inr (q, nv) => p_atts xs f q (att ++ [nv]) (ov || decide (20 < nv.2.length))) else .inr (p, att, ov)
/-- an end tag's name and its > from p on -/
def p_end (xs : List Nat) : List Nat → Nat → Nat ⊕ Nat
  | [], p => if xs.getD p 0 = 62 then .inr (p + 1) else .inl p
  | c :: nm, p => if xs.getD p 0 = c then p_end xs nm (p + 1) else .inl p
def p_elem (PC : Nat → Nat → List Int32 → Nat → List wn → Bool → pR) (xs : List Nat) (par : Option Nat) (dep : Nat) (lab : List Int32) (p : Nat) (W : List wn) (ov : Bool) : pR := match p_atts xs 130 (p + 1 + a_let xs (p + 1)) [] ov with
  | .inl e => .inl e
  | .inr (q, att, ov1) => if xs.getD q 0 = 47 then (if xs.getD (q + 1) 0 = 62 then .inr (q + 2, W ++ [(1, par, dep, lab, att, (xs.drop (p + 1)).take (a_let xs (p + 1)))], ov1 || decide (3 < att.length)) else .inl (q + 1)) else if xs.getD q 0 ≠ 62 then .inl q else match PC W.length (dep + 1) lab (q + 1) (W ++ [(1, par, dep, lab, att, (xs.drop (p + 1)).take (a_let xs (p + 1)))]) (ov1 || decide (3 < att.length)) with
    | .inl e => .inl e
    | .inr (q2, W2, ov3) => match p_end xs ((xs.drop (p + 1)).take (a_let xs (p + 1))) (q2 + 2) with
      | .inl e => .inl e
      | .inr q3 => .inr (q3, W2, ov3)
def p_cont (PP : Option Nat → Nat → List Int32 → Nat → List wn → Bool → pR) (xs : List Nat) : Nat → Nat → Nat → Nat → List Int32 → Nat → List wn → Bool → pR
  | 0, _, _, _, _, p, _, _ => .inl p
  | f + 1, k, j, dep, lab, p, W, ov => if p = xs.length then .inl p else if xs.getD p 0 = 60 ∧ xs.getD (p + 1) 0 = 47 then .inr (p, W, ov) else match PP (some j) dep (lab ++ [2 * nI k + 1]) p W ov with
    | .inl e => .inl e
    | .inr (q, W1, ov1) => p_cont PP xs f (k + 1) j dep lab q W1 ov1
def p_F (xs : List Nat) : Nat → Option Nat → Nat → List Int32 → Nat → List wn → Bool → pR
  | 0, _, _, _, p, _, _ => .inl p
  | n + 1, par, dep, lab, p, W, ov => p_elem (p_cont (p_piece (p_F xs n) xs) xs 130 0) xs par dep lab p W ov
/-- where a piece's reading goes -/
def pOK (xs : List Nat) (f : Option Nat → Nat → List Int32 → Nat → List wn → Bool → pR) (G : Nat → Nat → Prop) : Prop := ∀ par dep lab p W ov, p < xs.length → G p dep → (∀ e, f par dep lab p W ov = .inl e → p ≤ e ∧ e ≤ xs.length) ∧ ∀ q W1 ov1, f par dep lab p W ov = .inr (q, W1, ov1) → p < q ∧ q ≤ xs.length ∧ ∃ W2, W1 = W ++ W2 ∧ W2.length + p ≤ q
def pOKc (xs : List Nat) (f : Nat → Nat → List Int32 → Nat → List wn → Bool → pR) (G : Nat → Nat → Prop) : Prop := ∀ j dep lab p W ov, p ≤ xs.length → (∀ p, G p dep) → (∀ e, f j dep lab p W ov = .inl e → p ≤ e ∧ e ≤ xs.length) ∧ ∀ q W1 ov1, f j dep lab p W ov = .inr (q, W1, ov1) → p ≤ q ∧ q + 2 ≤ xs.length ∧ ∃ W2, W1 = W ++ W2 ∧ W2.length + p ≤ q
theorem p_att_le {xs : List Nat} {p : Nat} {as : List (List Nat × List Nat)} (hp : p ≤ xs.length) : (∀ e, p_att xs p as = .inl e → p ≤ e ∧ e ≤ xs.length) ∧ ∀ q nv, p_att xs p as = .inr (q, nv) → p + 4 ≤ q ∧ q ≤ xs.length ∧ a_let xs p ≠ 0 ∧ nv.1 = (xs.drop p).take (a_let xs p) := by
  have hl := a_let_le hp
  unfold p_att
  by_cases a0 : a_let xs p = 0 ∨ (∃ q ∈ as, q.1 = (xs.drop p).take (a_let xs p))
  · rw [if_pos a0]
    exact ⟨fun e w => by cases w; omega, fun q nv w => by cases w⟩
  rw [if_neg a0]
  have n0 : a_let xs p ≠ 0 := fun w => a0 (Or.inl w)
  by_cases a1 : xs.getD (p + a_let xs p) 0 = 61
  · rw [if_neg (fun w => w a1)]
    have := getD_pos a1 (by decide)
    by_cases a2 : xs.getD (p + a_let xs p + 1) 0 = 34
    · rw [if_neg (fun w => w a2)]
      have := getD_pos a2 (by decide)
      have hg := vE_ge (xs := xs) (stop := 34) 200 (p + a_let xs p + 2) []
      cases e : p_val xs 34 200 (p + a_let xs p + 2) [] with
      | inl e9 =>
        have := p_val_er _ _ _ e
        rw [e] at hg
        exact ⟨fun e8 w => by cases w; simp only [vE] at hg; omega, fun q nv w => by cases w⟩
      | inr x =>
        obtain ⟨q, v⟩ := x
        have := p_val_le _ _ _ (by omega) e
        by_cases a3 : xs.getD q 0 = 34
        · simp only [a3, if_true]
          have := getD_pos a3 (by decide)
          exact ⟨fun e8 w => (by cases w), fun q nv w => by cases w; exact ⟨by omega, by omega, n0, rfl⟩⟩
        · simp only [a3, if_false]
          exact ⟨fun e8 w => by cases w; omega, fun q nv w => by cases w⟩
    · rw [if_pos a2]
      exact ⟨fun e w => by cases w; omega, fun q nv w => by cases w⟩
  · rw [if_pos a1]
    exact ⟨fun e w => by cases w; omega, fun q nv w => by cases w⟩
theorem p_atts_le {xs : List Nat} : ∀ (f p : Nat) (att : List (List Nat × List Nat)) (ov : Bool), p ≤ xs.length → (∀ e, p_atts xs f p att ov = .inl e → p ≤ e ∧ e ≤ xs.length) ∧ ∀ q att1 ov1, p_atts xs f p att ov = .inr (q, att1, ov1) → p ≤ q ∧ q ≤ xs.length := by
  intro f
  induction f with
  | zero => intro p att ov hp; exact ⟨fun e w => by cases w; omega, fun q a o w => by cases w⟩
  | succ f ih =>
    intro p att ov hp
    unfold p_atts
    by_cases a : xs.getD p 0 = 32
    · have := getD_pos a (by decide)
      have L := p_att_le (xs := xs) (p := p + 1) (as := att) (by omega)
      rw [if_pos a]
      cases e : p_att xs (p + 1) att with
      | inl e9 =>
        have := L.1 e9 e
        exact ⟨fun e w => by cases w; omega, fun q a o w => by cases w⟩
      | inr x =>
        obtain ⟨q, nv⟩ := x
        have := L.2 q nv e
        have I := ih q (att ++ [nv]) (ov || decide (20 < nv.2.length)) (by omega)
        exact ⟨fun e w => by have := I.1 e w; omega, fun q2 a o w => by have := I.2 q2 a o w; omega⟩
    · rw [if_neg a]
      exact ⟨fun e w => (by cases w), fun q a o w => by cases w; omega⟩
theorem p_end_le {xs : List Nat} : ∀ (nm : List Nat) (p : Nat), (∀ c ∈ nm, c ≠ 0) → p ≤ xs.length → (∀ e, p_end xs nm p = .inl e → p ≤ e ∧ e ≤ xs.length) ∧ ∀ q, p_end xs nm p = .inr q → p < q ∧ q ≤ xs.length := by
  intro nm
  induction nm with
  | nil =>
    intro p hn hp
    unfold p_end
    by_cases a : xs.getD p 0 = 62
    · rw [if_pos a]
      have := getD_pos a (by decide)
      exact ⟨fun e w => (by cases w), fun q w => by cases w; omega⟩
    · rw [if_neg a]
      exact ⟨fun e w => by cases w; omega, fun q w => by cases w⟩
  | cons c nm ih =>
    intro p hn hp
    unfold p_end
    by_cases a : xs.getD p 0 = c
    · rw [if_pos a]
      have := getD_pos a (hn c (by simp))
      have I := ih (p + 1) (fun c hc => hn c (by simp [hc])) (by omega)
      exact ⟨fun e w => by have := I.1 e w; omega, fun q w => by have := I.2 q w; omega⟩
    · rw [if_neg a]
      exact ⟨fun e w => by cases w; omega, fun q w => by cases w⟩
theorem p_com_le {xs : List Nat} {par : Option Nat} {dep : Nat} {lab : List Int32} {p : Nat} {W : List wn} {ov : Bool} (g1 : xs.getD (p + 1) 0 = 33) : (∀ e, p_com xs par dep lab p W ov = .inl e → p ≤ e ∧ e ≤ xs.length) ∧ ∀ q W1 ov1, p_com xs par dep lab p W ov = .inr (q, W1, ov1) → p < q ∧ q ≤ xs.length ∧ ∃ W2, W1 = W ++ W2 ∧ W2.length + p ≤ q := by
  have := getD_pos g1 (by decide)
  unfold p_com
  by_cases a1 : xs.getD (p + 2) 0 = 45
  · rw [if_neg (fun w => w a1)]
    have := getD_pos a1 (by decide)
    by_cases a2 : xs.getD (p + 3) 0 = 45
    · rw [if_neg (fun w => w a2)]
      have := getD_pos a2 (by decide)
      have hd := p_dash_ge (xs := xs) (p := p + 4) (by omega)
      generalize p_dash xs (p + 4) = dd at *
      by_cases a3 : xs.getD dd 0 = 45
      · rw [if_neg (fun w => w a3)]
        have := getD_pos a3 (by decide)
        by_cases a4 : xs.getD (dd + 1) 0 = 45
        · rw [if_neg (fun w => w a4)]
          have := getD_pos a4 (by decide)
          by_cases a5 : xs.getD (dd + 2) 0 = 62
          · rw [if_neg (fun w => w a5)]
            have := getD_pos a5 (by decide)
            exact ⟨fun e w => (by cases w), fun q W1 ov1 w => by cases w; exact ⟨by omega, by omega, _, rfl, by simp; omega⟩⟩
          · rw [if_pos a5]; exact ⟨fun e w => by cases w; omega, fun q W1 ov1 w => by cases w⟩
        · rw [if_pos a4]; exact ⟨fun e w => by cases w; omega, fun q W1 ov1 w => by cases w⟩
      · rw [if_pos a3]; exact ⟨fun e w => by cases w; omega, fun q W1 ov1 w => by cases w⟩
    · rw [if_pos a2]; exact ⟨fun e w => by cases w; omega, fun q W1 ov1 w => by cases w⟩
  · rw [if_pos a1]; exact ⟨fun e w => by cases w; omega, fun q W1 ov1 w => by cases w⟩
theorem p_text_le {xs : List Nat} {par : Option Nat} {dep : Nat} {lab : List Int32} {p : Nat} {W : List wn} {ov : Bool} (hp : p < xs.length) (g0 : xs.getD p 0 ≠ 60) : (∀ e, p_text xs par dep lab p W ov = .inl e → p ≤ e ∧ e ≤ xs.length) ∧ ∀ q W1 ov1, p_text xs par dep lab p W ov = .inr (q, W1, ov1) → p < q ∧ q ≤ xs.length ∧ ∃ W2, W1 = W ++ W2 ∧ W2.length + p ≤ q := by
  unfold p_text
  have hg := vE_ge (xs := xs) (stop := 60) 200 p []
  cases e : p_val xs 60 200 p [] with
  | inl e9 =>
    have := p_val_er _ _ _ e
    rw [e] at hg
    simp only [vE] at hg
    exact ⟨fun e w => by cases w; omega, fun q W1 ov1 w => by cases w⟩
  | inr x =>
    obtain ⟨q, v⟩ := x
    have := vE_gt (f := 199) hp g0 g0 e
    have := p_val_le _ _ _ (by omega) e
    exact ⟨fun e w => (by cases w), fun q W1 ov1 w => by cases w; exact ⟨by omega, by omega, _, rfl, by simp; omega⟩⟩
theorem p_piece_le {xs : List Nat} {PE : Option Nat → Nat → List Int32 → Nat → List wn → Bool → pR} {N : Nat} (hE : pOK xs PE (fun p dep => xs.getD p 0 = 60 ∧ a_small (xs.getD (p + 1) 0) = true ∧ dep ≤ 5 ∧ 6 ≤ N + dep)) : pOK xs (p_piece PE xs) (fun _ dep => 1 ≤ dep ∧ dep ≤ 6 ∧ 6 ≤ N + dep) := by
  intro par dep lab p W ov hp hG
  unfold p_piece
  by_cases g0 : xs.getD p 0 = 60
  · rw [if_neg (fun w => w g0)]
    by_cases g1 : xs.getD (p + 1) 0 = 33
    · rw [if_pos g1]; exact p_com_le g1
    · rw [if_neg g1]
      cases g2 : a_small (xs.getD (p + 1) 0) with
      | false => rw [if_pos rfl]; exact ⟨fun e w => by cases w; omega, fun q W1 ov1 w => by cases w⟩
      | true =>
        rw [if_neg (by decide)]
        by_cases g3 : 5 < dep
        · rw [if_pos g3]; exact ⟨fun e w => by cases w; omega, fun q W1 ov1 w => by cases w⟩
        · rw [if_neg g3]; exact hE par dep lab p W ov hp ⟨g0, g2, by omega, hG.2.2⟩
  · rw [if_pos g0]; exact p_text_le hp g0
theorem p_cont_le {xs : List Nat} {PP : Option Nat → Nat → List Int32 → Nat → List wn → Bool → pR} {G : Nat → Nat → Prop} (hE : pOK xs PP G) : ∀ (f k : Nat), pOKc xs (p_cont PP xs f k) G := by
  intro f
  induction f with
  | zero => intro k j dep lab p W ov hp hG; exact ⟨fun e w => by cases w; omega, fun q W1 ov1 w => by cases w⟩
  | succ f ih =>
    intro k j dep lab p W ov hp hG
    unfold p_cont
    by_cases a0 : p = xs.length
    · rw [if_pos a0]; exact ⟨fun e w => by cases w; omega, fun q W1 ov1 w => by cases w⟩
    rw [if_neg a0]
    by_cases a1 : xs.getD p 0 = 60 ∧ xs.getD (p + 1) 0 = 47
    · rw [if_pos a1]
      have := getD_pos a1.2 (by decide)
      exact ⟨fun e w => (by cases w), fun q W1 ov1 w => by cases w; exact ⟨Nat.le_refl _, by omega, [], by simp, by simp⟩⟩
    · rw [if_neg a1]
      have L := hE (some j) dep (lab ++ [2 * nI k + 1]) p W ov (by omega) (hG p)
      cases e : PP (some j) dep (lab ++ [2 * nI k + 1]) p W ov with
      | inl e9 => exact ⟨fun e8 w => by cases w; exact L.1 _ e, fun q W1 ov1 w => by cases w⟩
      | inr x =>
        obtain ⟨q, W1, ov1⟩ := x
        obtain ⟨b1, b2, W2, b3, b4⟩ := L.2 q W1 ov1 e
        have I := ih (k + 1) j dep lab q W1 ov1 (by omega) hG
        refine ⟨fun e8 w => by have := I.1 e8 w; omega, fun q2 W3 ov3 w => ?_⟩
        obtain ⟨d1, d2, W4, d3, d4⟩ := I.2 q2 W3 ov3 w
        exact ⟨by omega, d2, W2 ++ W4, by rw [d3, b3, List.append_assoc], by rw [List.length_append]; omega⟩
theorem a_let_pos {xs : List Nat} {p : Nat} (h : a_small (xs.getD p 0) = true) : a_let xs p ≠ 0 := fun w => by
  have := (a_let_small (xs := xs) (p := p)).2.2 (by omega)
  rw [w] at this
  rw [Nat.add_zero, h] at this
  cases this
theorem a_name_ne {xs : List Nat} {p : Nat} : ∀ c ∈ (xs.drop p).take (a_let xs p), a_small c = true := by
  intro c hc
  obtain ⟨i, hi, e⟩ := List.mem_iff_getElem.mp hc
  rw [List.length_take, List.length_drop] at hi
  rw [List.getElem_take, List.getElem_drop] at e
  have := (a_let_small (xs := xs) (p := p)).2.1 i (by omega)
  rw [List.getD_eq_getElem?_getD, List.getElem?_eq_getElem (by omega)] at this
  simp only [Option.getD_some] at this
  rw [← e]; exact this
theorem a_small_ne {c : Nat} (h : a_small c = true) : c ≠ 0 := fun w => by rw [w] at h; exact absurd h (by decide)
theorem p_elem_le {xs : List Nat} {PC : Nat → Nat → List Int32 → Nat → List wn → Bool → pR} {N : Nat} (hC : pOKc xs PC (fun _ dep => 1 ≤ dep ∧ dep ≤ 6 ∧ 6 ≤ N + dep)) : pOK xs (p_elem PC xs) (fun p dep => xs.getD p 0 = 60 ∧ a_small (xs.getD (p + 1) 0) = true ∧ dep ≤ 5 ∧ 6 ≤ N + 1 + dep) := by
  intro par dep lab p W ov hp ⟨g0, g1, g2, g3⟩
  have l1 : p + 1 < xs.length := getD_pos rfl (a_small_ne g1)
  have hl := a_let_le (xs := xs) (p := p + 1) (by omega)
  have hn := a_let_pos g1
  unfold p_elem
  have L := p_atts_le (xs := xs) 130 (p + 1 + a_let xs (p + 1)) [] ov (by omega)
  cases e : p_atts xs 130 (p + 1 + a_let xs (p + 1)) [] ov with
  | inl e9 => exact ⟨fun e8 w => by cases w; have := L.1 _ e; omega, fun q W1 ov1 w => by cases w⟩
  | inr x =>
    obtain ⟨q, att, ov1⟩ := x
    have := L.2 _ _ _ e
    simp only []
    by_cases a1 : xs.getD q 0 = 47
    · rw [if_pos a1]
      have := getD_pos a1 (by decide)
      by_cases a2 : xs.getD (q + 1) 0 = 62
      · rw [if_pos a2]
        have := getD_pos a2 (by decide)
        exact ⟨fun e8 w => (by cases w), fun q W1 ov1 w => by cases w; exact ⟨by omega, by omega, _, rfl, by simp; omega⟩⟩
      · rw [if_neg a2]; exact ⟨fun e8 w => by cases w; omega, fun q W1 ov1 w => by cases w⟩
    · rw [if_neg a1]
      by_cases a2 : xs.getD q 0 = 62
      · rw [if_neg (fun w => w a2)]
        have := getD_pos a2 (by decide)
        generalize hnm : (xs.drop (p + 1)).take (a_let xs (p + 1)) = nm at *
        have hnn : ∀ c ∈ nm, c ≠ 0 := fun c hc => a_small_ne (a_name_ne (xs := xs) (p := p + 1) c (by rw [hnm]; exact hc))
        have I := hC W.length (dep + 1) lab (q + 1) (W ++ [(1, par, dep, lab, att, nm)]) (ov1 || decide (3 < att.length)) (by omega) (fun p => ⟨by omega, by omega, by omega⟩)
        cases e2 : PC W.length (dep + 1) lab (q + 1) (W ++ [(1, par, dep, lab, att, nm)]) (ov1 || decide (3 < att.length)) with
        | inl e9 => exact ⟨fun e8 w => by cases w; have := I.1 _ e2; omega, fun q W1 ov1 w => by cases w⟩
        | inr x2 =>
          obtain ⟨q2, W2, ov3⟩ := x2
          obtain ⟨d1, d2, W4, d3, d4⟩ := I.2 _ _ _ e2
          have T := p_end_le (xs := xs) nm (q2 + 2) hnn d2
          simp only []
          cases e3 : p_end xs nm (q2 + 2) with
          | inl e9 => exact ⟨fun e8 w => by cases w; have := T.1 _ e3; omega, fun q W1 ov1 w => by cases w⟩
          | inr q3 =>
            have := T.2 _ e3
            exact ⟨fun e8 w => (by cases w), fun q W1 ov1 w => by cases w; exact ⟨by omega, by omega, (1, par, dep, lab, att, nm) :: W4, by rw [d3, List.append_assoc]; rfl, by simp; omega⟩⟩
      · rw [if_pos a2]; exact ⟨fun e8 w => by cases w; omega, fun q W1 ov1 w => by cases w⟩
theorem p_F_le {xs : List Nat} : ∀ N, pOK xs (p_F xs N) (fun p dep => xs.getD p 0 = 60 ∧ a_small (xs.getD (p + 1) 0) = true ∧ dep ≤ 5 ∧ 6 ≤ N + dep) := by
  intro N
  induction N with
  | zero => intro par dep lab p W ov hp hG; exact absurd hG.2.2 (by omega)
  | succ N ih => exact p_elem_le (p_cont_le (p_piece_le ih) 130 0)
