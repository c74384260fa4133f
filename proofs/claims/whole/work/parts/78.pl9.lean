-- reading: a piece of content
def p_piece (PE : Option Nat → Nat → List Int32 → Nat → List wn → Bool → pR) (xs : List Nat) (par : Option Nat) (dep : Nat) (lab : List Int32) (p : Nat) (W : List wn) (ov : Bool) : pR :=
  if xs.getD p 0 ≠ 60 then p_text xs par dep lab p W ov else if xs.getD (p + 1) 0 = 33 then p_com xs par dep lab p W ov else if a_small (xs.getD (p + 1) 0) = false then .inl (p + 1) else if 5 < dep then .inl p else PE par dep lab p W ov
/-- what reading may take: cells, slots -/
def pcC (r : pR) (p : Nat) : Nat := match r with
  | .inl e => 40 * (e - p) + 40
  | .inr (q, _) => 40 * (q - p) - 2
def pcS (r : pR) (p : Nat) : Nat := match r with
  | .inl e => 2600 * (e - p) + 2600
  | .inr (q, _) => 2600 * (q - p) - 40
/-- a list that has grown -/
def aext (as as1 : List Nat) : Prop := ∀ i, i < as.length → as1.getD i 0 = as.getD i 0
/-- a method of the class that reads a node does as this says, where G holds of the place and the depth -/
def rImp (dA : Nat → ClassId) (h0 : hm_T) (z0 : hz_T) (sv0 : Nat) (op : Option Nat) (od y tt : Nat) (xs : List Nat) (rd sc : Nat) (F : Nat → Option Nat → Option Nat → Nat → Nat → (Int32 → hm_T → hz_T → Prop) → hm_T → hz_T → Prop) (f : Option Nat → Nat → List Int32 → Nat → List wn → Bool → pR) (G : Nat → Nat → Prop) : Prop :=
  ∀ (h : hm_T) (z : hz_T) (p d : Nat) (as : List Nat) (sv : Nat) (ws : List Nat) (ov : Bool) (W : List wn) (par : Option Nat) (l : Nat) (lab : List Int32) (c s : Nat) (K : Int32 → hm_T → hz_T → Prop), rRD dA h0 z0 sv0 op y tt xs rd sc eNo h z p (-1) d as sv ws (tmI ov) W → as.length = W.length → (∀ j, par = some j → j < W.length) → cp_lab dA h l lab → ¬ rQ eNo y rd d sc sv as l → fr0 h0 sv0 l → lab.length ≤ 18 + rDep W od par → W.length ≤ p → p < xs.length → G p (rDep W od par) → pcC (f par (rDep W od par) lab p W ov) p ≤ c → pcS (f par (rDep W od par) lab p W ov) p ≤ s →
    (∀ q W1 ov1, f par (rDep W od par) lab p W ov = .inr (q, W1, ov1) → ∀ (h1 : hm_T) (z1 : hz_T) (d1 : Nat) (as1 : List Nat) (sv1 : Nat) (ws1 : List Nat), rRD dA h0 z0 sv0 op y tt xs rd sc eNo h1 z1 q (-1) d1 as1 sv1 ws1 (tmI ov1) W1 → as1.length = W1.length → aext as as1 → K 1 h1 z1) →
    (∀ e, f par (rDep W od par) lab p W ov = .inl e → rEr dA h0 z0 sv0 y tt rd sc e (K 0)) → F y (rPar op as (0, par, 0, [], [], [])) (some l) c s K h z
theorem p_dash_ge {xs : List Nat} {p : Nat} (hp : p ≤ xs.length) : p ≤ p_dash xs p ∧ p_dash xs p ≤ xs.length := by
  unfold p_dash
  cases e : mp_fst (fun q => decide (xs.getD q 0 = 45 ∧ xs.getD (q + 1) 0 = 45)) (xs.length - p) p with
  | none => exact ⟨hp, Nat.le_refl _⟩
  | some q =>
    have := (mp_fst_some _ _ e).1
    simp only []
    omega
section PL9
variable {dA : Nat → ClassId} {h0 : hm_T} {z0 : hz_T} {sv0 : Nat} {op : Option Nat} {od y tt : Nat} {xs : List Nat} {rd sc : Nat} {ws0 : List Nat}
/-- the node's text written: its world -/
theorem rRD.text {h : hm_T} {z : hz_T} {p d : Nat} {wr : Int32} {as : List Nat} {sv : Nat} {ws : List Nat} {tm : Int32} {W : List wn} {x aq : Nat} {fs : List Value} (D : rRD dA h0 z0 sv0 op y tt xs rd sc (fun b => b = x ∨ b = aq) h z p wr d as sv ws tm W) (c1 : h x = some (.inr (8, fs))) (fx : fr0 h0 sv0 x) (xr : x ≠ rd) (xd : as ≠ [] → x ≠ d) {e : va_E} : rRD dA h0 z0 sv0 op y tt xs rd sc (fun b => b = x ∨ b = aq) (hm_u h x e) z p wr d as sv ws tm W := by
  have D0 := D
  obtain ⟨D1, D2, D3, D4, r⟩ := D
  obtain ⟨mb, nb, fb, b1, b2, br⟩ := id D3
  have M : hm_mo h (hm_u h x e) (fun b => b = x) := hm_mo.u rfl
  exact D0.own (Y := fun b => b = x) (M _ _ D1 (hm_ne D1 c1 rfl)) (D3.mo M (hm_ne b1 c1 rfl) (hm_ne b2 c1 rfl)) (Or.inl rfl) M (fun b w => Or.inr (Or.inr (Or.inr ⟨Or.inl w, by rw [w]; exact ⟨fx, xr, xd⟩⟩))) hz_mo.refl r.2.2.2.2.2.2.2.2 (fun b f hb w => Or.inl w)
theorem rl_comL {z : hz_T} {d : Nat} {as : List Nat} {sv : Nat} {ws : List Nat} {ov : Bool} {W : List wn} {par l' : Option Nat} {p0 c s : Nat} {K : Int32 → hm_T → hz_T → Prop} : ∀ (r fu q : Nat) (h : hm_T), q + r = xs.length → r < fu → q < 2 ^ 28 → rRD dA h0 z0 sv0 op y tt xs rd sc eNo h z q (-1) d as sv ws (tmI ov) W → (∀ h1, hm_mo h h1 (fun b => b = y) → rRD dA h0 z0 sv0 op y tt xs rd sc eNo h1 z (p_dash xs q) (-1) d as sv ws (tmI ov) W → w_MarkupReader_readComment_98 dA y K par l' (nI p0) c s h1 z) → w_MarkupReader_readComment_43 dA y K fu par l' (nI p0) c s h z := by
  intro r
  induction r with
  | zero =>
    intro fu q h hq hf hq2 D k
    obtain ⟨fu, rfl⟩ : ∃ f, fu = f + 1 := ⟨fu - 1, by omega⟩
    obtain ⟨⟨u, hu⟩, hl, hcx⟩ := id D.2.1
    have ed : p_dash xs q = q := by
      unfold p_dash
      rw [show xs.length - q = 0 by omega]
      show xs.length = q
      omega
    unfold w_MarkupReader_readComment_43
    refine cg_I_of D.1 rfl (cg_R_ref D.1 rfl (cg_d_of ⟨u, xs, hu, if_yes (nI_le (by omega) (by omega)) (k h hm_mo.refl (by rw [ed]; exact D))⟩))
  | succ r ih =>
    intro fu q h hq hf hq2 D k
    obtain ⟨fu, rfl⟩ : ∃ f, fu = f + 1 := ⟨fu - 1, by omega⟩
    obtain ⟨⟨u, hu⟩, hl, hcx⟩ := id D.2.1
    have h1l := getD_lt hcx q
    have h2l := getD_lt hcx (q + 1)
    have e45 : ∀ c : Nat, c < 128 → (nI c = 45 ↔ c = 45) := fun c h => nI_eq (b := 45) (by omega) (by decide)
    have es : xs.length - q = (xs.length - (q + 1)) + 1 := by omega
    have step : ¬ (xs.getD q 0 = 45 ∧ xs.getD (q + 1) 0 = 45) → w_MarkupReader_readComment_85 dA y K (w_MarkupReader_readComment_43 dA y K fu) par l' (nI p0) c s h z := fun w => by
      have ed : p_dash xs q = p_dash xs (q + 1) := by
        unfold p_dash
        rw [es]
        simp only [mp_fst, w, decide_false, Bool.false_eq_true, if_false]
      unfold w_MarkupReader_readComment_85
      refine cg_I_of D.1 rfl (cg_p_of D.1 (show 1 < 6 by decide) ?_)
      rw [nI_1]
      have M : ∀ e, hm_mo h (hm_u h y e) (fun b => b = y) := fun e => hm_mo.u rfl
      exact ih fu (q + 1) _ (by omega) (by omega) (by omega) (D.mo1 hm_s (M _) hz_mo.refl (tmI_01 ov)) (fun h1 M1 D1 => k h1 ((M _).trans M1) (by rw [ed]; exact D1))
    unfold w_MarkupReader_readComment_43
    refine cg_I_of D.1 rfl (cg_R_ref D.1 rfl (cg_d_of ⟨u, xs, hu, if_no (nI_ge (by omega) (by omega)) (cg_I_of D.1 rfl (cg_c_of D.1 (rl_seen D.1 D.2.1 (by omega) ?_)))⟩))
    by_cases q1 : xs.getD q 0 = 45
    · refine if_yes ((e45 _ h1l).mpr q1) (cg_I_of D.1 rfl (cg_c_of D.1 ?_))
      rw [nI_1]
      refine rl_seen D.1 D.2.1 (by omega) ?_
      by_cases q2 : xs.getD (q + 1) 0 = 45
      · refine if_yes ((e45 _ h2l).mpr q2) (k h hm_mo.refl ?_)
        have ed : p_dash xs q = q := by
          unfold p_dash
          rw [es]
          simp only [mp_fst, q1, q2, and_self, decide_true, if_true]
        rw [ed]; exact D
      · exact if_no (fun w => q2 ((e45 _ h2l).mp w)) (step (fun w => q2 w.2))
    · exact if_no (fun w => q1 ((e45 _ h1l).mp w)) (step (fun w => q1 w.1))
/-- a comment -/
theorem rl_com (J0 : jb dA h0 sc sv0 ws0) (O : rOp h0 op od) {h : hm_T} {z : hz_T} {p d : Nat} {as : List Nat} {sv : Nat} {ws : List Nat} {ov : Bool} {W : List wn} {par : Option Nat} {l : Nat} {lab : List Int32} {c s : Nat} {K : Int32 → hm_T → hz_T → Prop} (D : rRD dA h0 z0 sv0 op y tt xs rd sc eNo h z p (-1) d as sv ws (tmI ov) W) (hl : as.length = W.length) (hp : ∀ j, par = some j → j < W.length) (hL : cp_lab dA h l lab) (nl : ¬ rQ eNo y rd d sc sv as l) (fl : fr0 h0 sv0 l) (hW : W.length ≤ p) (g0 : xs.getD p 0 = 60) (g1 : xs.getD (p + 1) 0 = 33) (hc : 10 ≤ c) (hs : 600 ≤ s)
    (kok : ∀ q W1 ov1, p_com xs par (rDep W od par) lab p W ov = .inr (q, W1, ov1) → ∀ (h1 : hm_T) (z1 : hz_T) (d1 : Nat) (as1 : List Nat) (sv1 : Nat) (ws1 : List Nat), rRD dA h0 z0 sv0 op y tt xs rd sc eNo h1 z1 q (-1) d1 as1 sv1 ws1 (tmI ov1) W1 → as1.length = W1.length → aext as as1 → K 1 h1 z1)
    (kerr : ∀ e, p_com xs par (rDep W od par) lab p W ov = .inl e → rEr dA h0 z0 sv0 y tt rd sc e (K 0)) : w_MarkupReader_readComment dA y (rPar op as (0, par, 0, [], [], [])) (some l) c s K h z := by
  have hlen := D.2.1.2.1
  have l0 := getD_pos g0 (by decide)
  have l1 := getD_pos g1 (by decide)
  have keep : ∀ {h1 : hm_T}, hm_mo h h1 (fun b => b = y) → cp_lab dA h1 l lab := fun M => hL.mo M (fun w => nl (Or.inl w))
  have ep : p_com xs par (rDep W od par) lab p W ov = if xs.getD (p + 2) 0 ≠ 45 then .inl (p + 2) else if xs.getD (p + 3) 0 ≠ 45 then .inl (p + 3) else if xs.getD (p_dash xs (p + 4)) 0 ≠ 45 then .inl (p_dash xs (p + 4)) else if xs.getD (p_dash xs (p + 4) + 1) 0 ≠ 45 then .inl (p_dash xs (p + 4) + 1) else if xs.getD (p_dash xs (p + 4) + 2) 0 ≠ 62 then .inl (p_dash xs (p + 4) + 2) else .inr (p_dash xs (p + 4) + 3, W ++ [(3, par, rDep W od par, lab, [], (xs.drop (p + 4)).take (p_dash xs (p + 4) - (p + 4)))], ov || decide (20 < p_dash xs (p + 4) - (p + 4))) := rfl
  unfold w_MarkupReader_readComment w_MarkupReader_readComment_36
  have Dy : ∀ {h1 : hm_T} {p1 : Nat}, h1 y = some (r6c tt p1 (-1) rd sc (tmI ov)) → hm_mo h h1 (fun b => b = y) → rRD dA h0 z0 sv0 op y tt xs rd sc eNo h1 z p1 (-1) d as sv ws (tmI ov) W := fun R M => D.mo1 R M hz_mo.refl (tmI_01 ov)
  refine cg_c_of D.1 (rl_take (c := 60) D.1 D.2.1 (by omega) (by decide) (fun _ h1 R1 M1 => ?_) (fun w => absurd g0 w))
  refine if_no (by decide) (cg_c_of R1 (rl_take (c := 33) R1 D.2.1 (by omega) (by decide) (fun _ h2 R2 M2 => ?_) (fun w => absurd g1 w)))
  have M02 := M1.trans M2
  refine if_no (by decide) (cg_c_of R2 (rl_take (c := 45) R2 D.2.1 (by omega) (by decide) (fun g2 h3 R3 M3 => ?_) (fun g2 h3 R3 M3 => if_yes rfl ((D.mo1 R3 (M02.trans M3) hz_mo.refl (tmI_01 ov)).er rfl (kerr (p + 1 + 1) (by rw [ep, if_pos g2]))))))
  have l2 := getD_pos g2 (by decide)
  rw [if_neg (fun w => w g2)] at ep
  have M03 := M02.trans M3
  refine if_no (by decide) (cg_c_of R3 (rl_take (c := 45) R3 D.2.1 (by omega) (by decide) (fun g3 h4 R4 M4 => ?_) (fun g3 h4 R4 M4 => if_yes rfl ((D.mo1 R4 (M03.trans M4) hz_mo.refl (tmI_01 ov)).er rfl (kerr (p + 1 + 1 + 1) (by rw [ep, if_pos g3]))))))
  have l3 := getD_pos g3 (by decide)
  rw [if_neg (fun w => w g3)] at ep
  have M04 := M03.trans M4
  have hq := p_dash_ge (xs := xs) (p := p + 4) (by omega)
  refine if_no (by decide) (cg_I_of R4 rfl (rl_comL (xs.length - (p + 1 + 1 + 1 + 1)) mF (p + 1 + 1 + 1 + 1) h4 (by omega) (by unfold mF; omega) (by omega) (Dy R4 M04) (fun h5 M5 D5 => ?_)))
  rw [show p + 1 + 1 + 1 + 1 = p + 4 by omega] at D5
  generalize hqq : p_dash xs (p + 4) = q at *
  have M05 := M04.trans M5
  unfold w_MarkupReader_readComment_98 w_MarkupReader_readComment_145
  refine cg_c_of D5.1 (cg_rm_of (c1 := 3) (s1 := 212) (by omega) (by omega) (rl_make' (kd := 3) D5 J0 O hp hl (by omega) (keep M05) nl fl (Nat.le_refl _) (Nat.le_refl _) (fun h6 x aq e1 e2 d1 D6 c6 z1 z2 j6 fx fa nQ L6 => ?_)))
  obtain ⟨⟨u6, hu6⟩, hl6, hcx6⟩ := id D6.2.1
  refine cg_R_ref D6.1 rfl (cg_I_of D6.1 rfl (cg_d_of (cg_k_of (by omega) (by omega) ⟨u6, xs, p + 1 + 1 + 1 + 1, q, hu6, rfl, rfl, by omega, by omega, by omega, hcx6, fun h7 z7 t7 u7 k7 k8 k9 => ?_⟩)))
  have D7 := D6.mo1 (h1 := h7) (z1 := z7) (k8 _ _ D6.1) (fun b e hb _ => k8 b e hb) k9 (tmI_01 ov)
  have c7 := k8 _ _ c6
  have ne : (as ++ [x]) ≠ [] := by simp
  have xr : x ≠ rd := fun w => nQ x (Or.inl rfl) (Or.inr (Or.inl w))
  have xd : x ≠ d1 := fun w => nQ x (Or.inl rfl) (Or.inr (Or.inr (Or.inl ⟨w, ne⟩)))
  refine cg_d_of (cg_p_of c7 (show 7 < 9 by decide) ?_)
  have D8 := fun e => D7.text (e := e) c7 fx xr (fun _ => xd)
  have M8 : ∀ e, hm_mo h7 (hm_u h7 x e) (fun b => b = x) := fun e => hm_mo.u rfl
  have R8 := fun e => (D8 e).1
  have jl : ja dA h7 aq (dA 99) [] := j6.mo (Y := fun _ => False) (fun b e hb _ => k8 b e hb) id (fun w => absurd rfl w)
  have ax : aq ≠ x := by obtain ⟨mo, w1, _⟩ := id jl; exact hm_ne w1 c7 rfl
  have jl8 := fun e => jl.mo (M8 e) ax (fun w => absurd rfl w)
  have L8 : ∀ e, cp_lab dA (hm_u h7 x e) l lab := fun e => (L6.mo (Y := fun _ => False) (fun b e hb _ => k8 b e hb) id).mo (M8 e) (by obtain ⟨f, w1, _⟩ := L6; exact hm_ne (k8 _ _ w1) c7 rfl)
  have tv : ((xs.drop (p + 1 + 1 + 1 + 1)).take (q - (p + 1 + 1 + 1 + 1))).length = q - (p + 4) := by rw [List.length_take, List.length_drop]; omega
  -- the three last signs
  have fin : ∀ (w0 : Int32) (c s : Nat), (w0 = 0 ∨ w0 = 1) → w0 = tmI (ov || decide (20 < q - (p + 4))) → ∀ e, e = .inr (8, [.int (nI 3), va_rf (rPar op (as ++ [x]) (0, par, 0, [], [], [])), .int (nI (rDep W od par)), .ref l, .ref aq, .int (-1), .int (-1), .ref t7, .ref e2]) → w_MarkupReader_readComment_150 dA y K w0 c s (hm_u h7 x e) z7 := by
    intro w0 c s hw0 hw e he
    have Dn := (D8 e).leaf (kd := 3) (dep := rDep W od par) (lab := lab) (v := (xs.drop (p + 4)).take (q - (p + 4))) hl hp (by rw [he]; exact hm_s) ⟨u7, by rw [show p + 1 + 1 + 1 + 1 = p + 4 by omega] at k7; exact k7⟩ (by obtain ⟨u, w⟩ := z2; exact ⟨u, k9 _ _ w⟩) (jl8 e) fx fa fl nQ (L8 e)
    unfold w_MarkupReader_readComment_150 w_MarkupReader_readComment_184
    refine ⟨hw0, cg_p_of Dn.1 (show 5 < 6 by decide) ?_⟩
    have Dm := Dn.mo1 (h1 := hm_u (hm_u h7 x e) y (r6c tt q (-1) rd sc w0)) (p1 := q) (tm1 := w0) hm_s (hm_mo.u rfl) hz_mo.refl hw0
    refine cg_c_of hm_s (rl_take' (c := 45) Dm (by omega) (by decide) (fun g5 h9 D9 => ?_) (fun g5 => ?_))
    · rw [if_neg (fun w => w g5)] at ep
      refine if_no (by decide) (cg_c_of D9.1 (rl_take' (c := 45) D9 (by omega) (by decide) (fun g6 h10 D10 => ?_) (fun g6 h1 z1 sv1 p1 tm1 ws1 a1 a2 a3 a4 a5 => if_yes rfl (kerr (q + 1) (by rw [ep, if_pos g6]) h1 z1 sv1 p1 tm1 ws1 a1 a2 a3 a4 a5))))
      rw [if_neg (fun w => w g6)] at ep
      refine if_no (by decide) (cg_c_of D10.1 (rl_take' (c := 62) D10 (by omega) (by decide) (fun g7 h11 D11 => ?_) (fun g7 h1 z1 sv1 p1 tm1 ws1 a1 a2 a3 a4 a5 => if_yes rfl (kerr (q + 1 + 1) (by rw [ep, if_pos g7]) h1 z1 sv1 p1 tm1 ws1 a1 a2 a3 a4 a5))))
      rw [if_neg (fun w => w g7)] at ep
      refine if_no (by decide) (kok (q + 3) _ _ ep h11 z7 d1 (as ++ [x]) sv ws ?_ (by rw [List.length_append, List.length_append, hl]; rfl) (fun i hi => getD_app_l hi))
      rw [← hw]
      exact D11
    · intro h1 z1 sv1 p1 tm1 ws1 a1 a2 a3 a4 a5
      exact if_yes rfl (kerr q (by rw [ep, if_pos g5]) h1 z1 sv1 p1 tm1 ws1 a1 a2 a3 a4 a5)
  refine cg_I_of (R8 _) rfl ?_
  cases ov with
  | true => exact if_no (by decide) (fin 1 _ _ (Or.inr rfl) (by rw [Bool.true_or]; rfl) _ rfl)
  | false =>
    refine if_yes rfl (cg_d_of (cg_R_ref hm_s rfl (cg_d_of ⟨u7, _, k7, ?_⟩)))
    rw [tv]
    by_cases w : q - (p + 4) ≤ 20
    · exact if_yes (nI_le (b := 20) w (by decide)) (fin 0 _ _ (Or.inl rfl) (by rw [Bool.false_or, decide_eq_false (by omega)]; rfl) _ rfl)
    · exact if_no (nI_ge (a := 20) (by omega) (by omega)) (fin 1 _ _ (Or.inr rfl) (by rw [Bool.false_or, decide_eq_true (by omega)]; rfl) _ rfl)
end PL9
