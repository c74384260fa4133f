-- reading: texts and comments
abbrev pR : Type := Nat ⊕ (Nat × List wn × Bool)
def tmI (b : Bool) : Int32 := if b then 1 else 0
def p_text (xs : List Nat) (par : Option Nat) (dep : Nat) (lab : List Int32) (p : Nat) (W : List wn) (ov : Bool) : pR := match p_val xs 60 200 p [] with
  | .inl e => .inl e
  | .inr (q, v) => .inr (q, W ++ [(2, par, dep, lab, [], v)], ov || decide (20 < v.length))
/-- where the next -- stands -/
def p_dash (xs : List Nat) (p : Nat) : Nat := match mp_fst (fun q => decide (xs.getD q 0 = 45 ∧ xs.getD (q + 1) 0 = 45)) (xs.length - p) p with
  | some q => q
  | none => xs.length
def p_com (xs : List Nat) (par : Option Nat) (dep : Nat) (lab : List Int32) (p : Nat) (W : List wn) (ov : Bool) : pR :=
  if xs.getD (p + 2) 0 ≠ 45 then .inl (p + 2) else if xs.getD (p + 3) 0 ≠ 45 then .inl (p + 3) else if xs.getD (p_dash xs (p + 4)) 0 ≠ 45 then .inl (p_dash xs (p + 4)) else if xs.getD (p_dash xs (p + 4) + 1) 0 ≠ 45 then .inl (p_dash xs (p + 4) + 1) else if xs.getD (p_dash xs (p + 4) + 2) 0 ≠ 62 then .inl (p_dash xs (p + 4) + 2) else .inr (p_dash xs (p + 4) + 3, W ++ [(3, par, dep, lab, [], (xs.drop (p + 4)).take (p_dash xs (p + 4) - (p + 4)))], ov || decide (20 < p_dash xs (p + 4) - (p + 4)))
/-- the outer parent, and how deep what lies in it is -/
def rOp (h0 : hm_T) (op : Option Nat) (od : Nat) : Prop := (op = none ∧ od = 0) ∨ ∃ (o : Nat) (fs : List Value) (v : Nat), op = some o ∧ h0 o = some (.inr (8, fs)) ∧ fs[2]? = some (.int (nI v)) ∧ od = v + 1
/-- how deep a node of this parent is -/
def rDep (W : List wn) (od : Nat) (par : Option Nat) : Nat := match par with
  | none => od
  | some j => (W.getD j wn0).2.2.1 + 1
theorem tm_val {ov : Bool} {n : Nat} : (if tmI ov = 0 ∧ n ≤ 20 then (0 : Int32) else 1) = tmI (ov || decide (20 < n)) := by
  cases ov
  · by_cases q : n ≤ 20
    · rw [if_pos ⟨rfl, q⟩]
      have : decide (20 < n) = false := decide_eq_false (by omega)
      rw [this]; rfl
    · rw [if_neg (fun w => q w.2)]
      have : decide (20 < n) = true := decide_eq_true (by omega)
      rw [this]; rfl
  · rw [if_neg (fun w => absurd w.1 (by decide))]; rfl
theorem tmI_01 (b : Bool) : tmI b = 0 ∨ tmI b = 1 := by cases b <;> simp [tmI]
theorem p_val_er {xs : List Nat} {stop : Nat} : ∀ (f p9 : Nat) (acc : List Nat) {e9 : Nat}, p_val xs stop f p9 acc = .inl e9 → e9 < xs.length := by
  intro f
  induction f with
  | zero => intro p9 acc e9 w; cases w
  | succ f ih =>
    intro p9 acc e9 w
    unfold p_val at w
    by_cases a0 : xs.length ≤ p9
    · rw [if_pos a0] at w; cases w
    rw [if_neg a0] at w
    by_cases a1 : xs.getD p9 0 = 60 ∨ xs.getD p9 0 = stop
    · rw [if_pos a1] at w; cases w
    rw [if_neg a1] at w
    by_cases a2 : xs.getD p9 0 = 38
    · rw [if_pos a2] at w
      cases ea : a_ent xs p9 with
      | none => rw [ea] at w; cases w; omega
      | some x9 => obtain ⟨c9, r9⟩ := x9; rw [ea] at w; exact ih _ _ w
    · rw [if_neg a2] at w; exact ih _ _ w
section PL8
variable {dA : Nat → ClassId} {h0 : hm_T} {z0 : hz_T} {sv0 : Nat} {op : Option Nat} {od y tt : Nat} {xs : List Nat} {rd sc : Nat} {h : hm_T} {z : hz_T} {p : Nat} {wr : Int32} {d : Nat} {as : List Nat} {sv : Nat} {ws ws0 : List Nat} {tm : Int32} {W : List wn} {E : Nat → Prop}
theorem rRD.hop (D : rRD dA h0 z0 sv0 op y tt xs rd sc E h z p wr d as sv ws tm W) (J0 : jb dA h0 sc sv0 ws0) (O : rOp h0 op od) {par : Option Nat} (hp : ∀ j, par = some j → j < W.length) : (rPar op as (0, par, 0, [], [], []) = none ∧ nI (rDep W od par) = 0) ∨ ∃ (o : Nat) (fs : List Value) (v : Int32), rPar op as (0, par, 0, [], [], []) = some o ∧ h o = some (.inr (8, fs)) ∧ fs[2]? = some (.int v) ∧ nI (rDep W od par) = v + 1 := by
  obtain ⟨D1, D2, D3, D4, D5, D6, D7, r⟩ := D
  obtain ⟨mb, nb, fb, b1, b2, br⟩ := id J0
  cases par with
  | none =>
    rcases O with ⟨e1, e2⟩ | ⟨o, fs, v, e1, c1, c2, e2⟩
    · exact Or.inl ⟨e1, by show nI od = 0; rw [e2]; rfl⟩
    · exact Or.inr ⟨o, fs, nI v, e1, D7 _ _ c1 (fun w => w.elim (hm_ne c1 b1 rfl) (hm_ne c1 b2 rfl)), c2, by show nI od = _; rw [e2, nI_1]⟩
  | some j =>
    obtain ⟨l, aq, tx, kt, c1, _⟩ := (D6 j (hp j rfl)).1
    exact Or.inr ⟨as.getD j 0, _, _, rfl, c1, rfl, by show nI ((W.getD j wn0).2.2.1 + 1) = _; rw [nI_1]⟩
theorem rl_make' (D : rRD dA h0 z0 sv0 op y tt xs rd sc eNo h z p wr d as sv ws tm W) (J0 : jb dA h0 sc sv0 ws0) (O : rOp h0 op od) {par : Option Nat} (hp : ∀ j, par = some j → j < W.length) (hl : as.length = W.length) (hl2 : as.length ≤ 130) {kd l : Nat} {lab : List Int32} (hL : cp_lab dA h l lab) (nl : ¬ rQ eNo y rd d sc sv as l) (fl : fr0 h0 sv0 l) {c s : Nat} (hc : 3 ≤ c) (hs : 212 ≤ s) {K : Option Nat → hm_T → hz_T → Prop}
    (hK : ∀ (h1 : hm_T) (x aq e1 e2 d1 : Nat), rRD dA h0 z0 sv0 op y tt xs rd sc (fun b => b = x ∨ b = aq) h1 z p wr d1 (as ++ [x]) sv ws tm W → h1 x = some (.inr (8, [.int (nI kd), va_rf (rPar op (as ++ [x]) (0, par, 0, [], [], [])), .int (nI (rDep W od par)), .ref l, .ref aq, .int (-1), .int (-1), .ref e1, .ref e2])) → (∃ u, z e1 = some (u, [])) → (∃ u, z e2 = some (u, [])) → ja dA h1 aq (dA 99) [] → fr0 h0 sv0 x → fr0 h0 sv0 aq → (∀ b, (b = x ∨ b = aq ∨ b = l) → ¬ rQ eNo y rd d1 sc sv (as ++ [x]) b) → cp_lab dA h1 l lab → K (some x) h1 z) : w_MarkupReader_make dA y (nI kd) (rPar op as (0, par, 0, [], [], [])) (some l) c s K h z := by
  have D0 := D
  have hop := D.hop J0 O hp
  obtain ⟨D1, D2, D3, D4, D5, D6, D7, D8, D9, D10, D11, D12, D13⟩ := D
  obtain ⟨mb, nb, fb, b1, b2, br⟩ := id D3
  obtain ⟨mo, r1, r2⟩ := id D4
  obtain ⟨lf, L1, L2⟩ := id hL
  have jo1 : ∀ i, i < as.length → jo h (as.getD i 0) := fun i hi => by
    obtain ⟨l9, aq, tx, kt, c1, _⟩ := (D6 i (by omega)).1
    exact ⟨8, _, c1, Or.inl rfl⟩
  refine rl_make D1 D4 hl2 jo1 hop hc hs (fun h1 x aq e1 e2 d1 c1 z1 z2 j1 hx hq jr hd M => ?_)
  have n104 : ∀ {b : Nat} {e : va_E}, h b = some e → Nat.beq (hm_tag e) 4 = false → Nat.beq (hm_tag e) 104 = false → ¬ (b = rd ∨ (b = d ∧ as ≠ [])) := fun hb t4 t104 w => by
    rcases w with w | ⟨w, e⟩
    · exact hm_ne hb r1 t4 w
    · rcases r2 with ⟨e9, _⟩ | ⟨_, n, f, c3, _⟩
      · exact e e9
      · exact hm_ne hb c3 t104 w
  have R1 := M _ _ D1 (n104 D1 rfl rfl)
  have jS1 := D3.mo M (n104 b1 rfl rfl) (n104 b2 rfl rfl)
  obtain ⟨mb1, nb1, fb1, s1, s2, sr⟩ := id jS1
  obtain ⟨mo1, k1, k2⟩ := id jr
  have kd1 : ∃ n f, h1 d1 = some (.inl (dA 6, n, .inr (.inr (.inr (.inr f))))) := by
    rcases k2 with ⟨k2, _⟩ | ⟨_, n, f, c3, _⟩
    · exact absurd k2 (by simp)
    · exact ⟨n, f, c3⟩
  obtain ⟨n1, f1, c3⟩ := kd1
  obtain ⟨mo2, q1, q2⟩ := id j1
  have L1' := M _ _ L1 (n104 L1 rfl rfl)
  have hpar : rPar op (as ++ [x]) (0, par, 0, [], [], []) = rPar op as (0, par, 0, [], [], []) := by
    unfold rPar
    cases par with
    | none => rfl
    | some j =>
      show some ((as ++ [x]).getD j 0) = some (as.getD j 0)
      rw [getD_app_l (by have := hp j rfl; omega)]
  have hE : ∀ b, (b = x ∨ b = aq) → h b = none := fun b w => w.elim (fun w => by rw [w]; exact hx) (fun w => by rw [w]; exact hq)
  refine hK h1 x aq e1 e2 d1 (D0.pend R1 jS1 jr hd M hE (fun i hi w => by obtain ⟨ci, fs, c9, _⟩ := jo1 i hi; rw [w, hx] at c9; cases c9)) (by rw [hpar]; exact c1) z1 z2 j1 (D0.fr hx) (D0.fr hq) (fun b w k => ?_) ⟨lf, L1', L2⟩
  rcases w with w | w | w <;> subst w
  · rcases k with k | k | k | k | k | k
    · rw [k, D1] at hx; cases hx
    · rw [k, r1] at hx; cases hx
    · exact hm_ne c1 c3 rfl k.1
    · rw [k, b1] at hx; cases hx
    · rw [k, b2] at hx; cases hx
    · exact k
  · rcases k with k | k | k | k | k | k
    · rw [k, D1] at hq; cases hq
    · rw [k, r1] at hq; cases hq
    · exact hm_ne q1 c3 rfl k.1
    · rw [k, b1] at hq; cases hq
    · rw [k, b2] at hq; cases hq
    · exact k
  · rcases k with k | k | k | k | k | k
    · exact nl (Or.inl k)
    · exact nl (Or.inr (Or.inl k))
    · exact hm_ne L1' c3 rfl k.1
    · exact nl (Or.inr (Or.inr (Or.inr (Or.inl k))))
    · exact nl (Or.inr (Or.inr (Or.inr (Or.inr (Or.inl k)))))
    · exact k
/-- a node with its text written is read: no attributes -/
theorem rRD.leaf {x aq e2 l tx : Nat} {par : Option Nat} {kd dep : Nat} {lab : List Int32} {v : List Nat} (D : rRD dA h0 z0 sv0 op y tt xs rd sc (fun b => b = x ∨ b = aq) h z p wr d (as ++ [x]) sv ws tm W) (hl : as.length = W.length) (hp : ∀ j, par = some j → j < W.length) (c1 : h x = some (.inr (8, [.int (nI kd), va_rf (rPar op (as ++ [x]) (0, par, 0, [], [], [])), .int (nI dep), .ref l, .ref aq, .int (-1), .int (-1), .ref tx, .ref e2]))) (hz : ∃ u, z tx = some (u, v)) (hz2 : ∃ u, z e2 = some (u, [])) (ja0 : ja dA h aq (dA 99) []) (fx : fr0 h0 sv0 x) (fa : fr0 h0 sv0 aq) (fl : fr0 h0 sv0 l) (nQ : ∀ b, (b = x ∨ b = aq ∨ b = l) → ¬ rQ eNo y rd d sc sv (as ++ [x]) b) (hL : cp_lab dA h l lab) : rRD dA h0 z0 sv0 op y tt xs rd sc eNo h z p wr d (as ++ [x]) sv ws tm (W ++ [(kd, par, dep, lab, [], v)]) := by
  refine D.done (by rw [List.length_append, hl]; rfl) ?_ hp
  rw [← hl, getD_app_r]
  exact ⟨l, aq, tx, e2, c1, nQ _ (Or.inl rfl), fx, hL, nQ _ (Or.inr (Or.inr rfl)), fl, ⟨dA 99, [], ja0, fun w => w.elim (nQ _ (Or.inr (Or.inl rfl))) (fun w => w fa), fun w => absurd rfl w, rfl, fun j hj => absurd hj (Nat.not_lt_zero _)⟩, hz, hz2⟩
end PL8
