-- reading: attributes, elements, content: what they are
def p_atts (xs : List Nat) : Nat → Nat → List (List Nat × List Nat) → Bool → Nat ⊕ (Nat × List (List Nat × List Nat) × Bool)
  | 0, p, _, _ => .inl p
  | f + 1, p, att, ov => if xs.getD p 0 = 32 then (match p_att xs (p + 1) att with
    | .inl e => .inl e
    | .inr (q, nv) => p_atts xs f q (att ++ [nv]) (ov || decide (20 < nv.2.length))) else .inr (p, att, ov)
/-- an end tag's name and its > from p on -/
def p_end (xs : List Nat) : List Nat → Nat → Nat ⊕ Nat
  | [], p => if xs.getD p 0 = 62 then .inr (p + 1) else .inl p
  | c :: nm, p => if xs.getD p 0 = c then p_end xs nm (p + 1) else .inl p
def p_elem (PC : Nat → Nat → List Int32 → Nat → List wn → Bool → pR) (xs : List Nat) (par : Option Nat) (dep : Nat) (lab : List Int32) (p : Nat) (W : List wn) (ov : Bool) : pR := match p_atts xs 130 (p + 1 + a_let xs (p + 1)) [] ov with
  | .inl e => .inl e
  | .inr (q, att, ov1) => if xs.getD q 0 = 47 then (if xs.getD (q + 1) 0 = 62 then .inr (q + 2, W ++ [(1, par, dep, lab, att, (xs.drop (p + 1)).take (a_let xs (p + 1)))], ov1 || decide (3 < att.length)) else .inl (q + 1)) else if xs.getD q 0 ≠ 62 then .inl q else match PC W.length (dep + 1) lab (q + 1) (W ++ [(1, par, dep, lab, att, (xs.drop (p + 1)).take (a_let xs (p + 1)))]) (ov1 || decide (3 < att.length)) with
    | .inl e => .inl e
    | .inr (q2, W2, ov3) => match p_end xs ((xs.drop (p + 1)).take (a_let xs (p + 1))) (q2 + 2) with
      | .inl e => .inl e
      | .inr q3 => .inr (q3, W2, ov3)
def p_cont (PP : Option Nat → Nat → List Int32 → Nat → List wn → Bool → pR) (xs : List Nat) : Nat → Nat → Nat → Nat → List Int32 → Nat → List wn → Bool → pR
  | 0, _, _, _, _, p, _, _ => .inl p
  | f + 1, k, j, dep, lab, p, W, ov => if p = xs.length then .inl p else if xs.getD p 0 = 60 ∧ xs.getD (p + 1) 0 = 47 then .inr (p, W, ov) else match PP (some j) dep (lab ++ [2 * nI k + 1]) p W ov with
    | .inl e => .inl e
    | .inr (q, W1, ov1) => p_cont PP xs f (k + 1) j dep lab q W1 ov1
def p_F (xs : List Nat) : Nat → Option Nat → Nat → List Int32 → Nat → List wn → Bool → pR
  | 0, _, _, _, p, _, _ => .inl p
  | n + 1, par, dep, lab, p, W, ov => p_elem (p_cont (p_piece (p_F xs n) xs) xs 130 0) xs par dep lab p W ov
/-- where a piece's reading goes -/
def pOK (xs : List Nat) (f : Option Nat → Nat → List Int32 → Nat → List wn → Bool → pR) (G : Nat → Nat → Prop) : Prop := ∀ par dep lab p W ov, p < xs.length → G p dep → (∀ e, f par dep lab p W ov = .inl e → p ≤ e ∧ e ≤ xs.length) ∧ ∀ q W1 ov1, f par dep lab p W ov = .inr (q, W1, ov1) → p < q ∧ q ≤ xs.length ∧ ∃ W2, W1 = W ++ W2 ∧ W2.length + p ≤ q
def pOKc (xs : List Nat) (f : Nat → Nat → List Int32 → Nat → List wn → Bool → pR) (G : Nat → Nat → Prop) : Prop := ∀ j dep lab p W ov, p ≤ xs.length → (∀ p, G p dep) → (∀ e, f j dep lab p W ov = .inl e → p ≤ e ∧ e ≤ xs.length) ∧ ∀ q W1 ov1, f j dep lab p W ov = .inr (q, W1, ov1) → p ≤ q ∧ q + 2 ≤ xs.length ∧ ∃ W2, W1 = W ++ W2 ∧ W2.length + p ≤ q
theorem p_att_le {xs : List Nat} {p : Nat} {as : List (List Nat × List Nat)} (hp : p ≤ xs.length) : (∀ e, p_att xs p as = .inl e → p ≤ e ∧ e ≤ xs.length) ∧ ∀ q nv, p_att xs p as = .inr (q, nv) → p + 4 ≤ q ∧ q ≤ xs.length ∧ a_let xs p ≠ 0 ∧ nv.1 = (xs.drop p).take (a_let xs p) := by
  have hl := a_let_le hp
  unfold p_att
  by_cases a0 : a_let xs p = 0 ∨ (∃ q ∈ as, q.1 = (xs.drop p).take (a_let xs p))
  · rw [if_pos a0]
    exact ⟨fun e w => by cases w; omega, fun q nv w => by cases w⟩
  rw [if_neg a0]
  have n0 : a_let xs p ≠ 0 := fun w => a0 (Or.inl w)
  by_cases a1 : xs.getD (p + a_let xs p) 0 = 61
  · rw [if_neg (fun w => w a1)]
    have := getD_pos a1 (by decide)
    by_cases a2 : xs.getD (p + a_let xs p + 1) 0 = 34
    · rw [if_neg (fun w => w a2)]
      have := getD_pos a2 (by decide)
      have hg := vE_ge (xs := xs) (stop := 34) 200 (p + a_let xs p + 2) []
      cases e : p_val xs 34 200 (p + a_let xs p + 2) [] with
      | inl e9 =>
        have := p_val_er _ _ _ e
        rw [e] at hg
        exact ⟨fun e8 w => by cases w; simp only [vE] at hg; omega, fun q nv w => by cases w⟩
      | inr x =>
        obtain ⟨q, v⟩ := x
        have := p_val_le _ _ _ (by omega) e
        by_cases a3 : xs.getD q 0 = 34
        · simp only [a3, if_true]
          have := getD_pos a3 (by decide)
          exact ⟨fun e8 w => (by cases w), fun q nv w => by cases w; exact ⟨by omega, by omega, n0, rfl⟩⟩
        · simp only [a3, if_false]
          exact ⟨fun e8 w => by cases w; omega, fun q nv w => by cases w⟩
    · rw [if_pos a2]
      exact ⟨fun e w => by cases w; omega, fun q nv w => by cases w⟩
  · rw [if_pos a1]
    exact ⟨fun e w => by cases w; omega, fun q nv w => by cases w⟩
theorem p_atts_le {xs : List Nat} : ∀ (f p : Nat) (att : List (List Nat × List Nat)) (ov : Bool), p ≤ xs.length → (∀ e, p_atts xs f p att ov = .inl e → p ≤ e ∧ e ≤ xs.length) ∧ ∀ q att1 ov1, p_atts xs f p att ov = .inr (q, att1, ov1) → p ≤ q ∧ q ≤ xs.length := by
  intro f
  induction f with
  | zero => intro p att ov hp; exact ⟨fun e w => by cases w; omega, fun q a o w => by cases w⟩
  | succ f ih =>
    intro p att ov hp
    unfold p_atts
    by_cases a : xs.getD p 0 = 32
    · have := getD_pos a (by decide)
      have L := p_att_le (xs := xs) (p := p + 1) (as := att) (by omega)
      rw [if_pos a]
      cases e : p_att xs (p + 1) att with
      | inl e9 =>
        have := L.1 e9 e
        exact ⟨fun e w => by cases w; omega, fun q a o w => by cases w⟩
      | inr x =>
        obtain ⟨q, nv⟩ := x
        have := L.2 q nv e
        have I := ih q (att ++ [nv]) (ov || decide (20 < nv.2.length)) (by omega)
        exact ⟨fun e w => by have := I.1 e w; omega, fun q2 a o w => by have := I.2 q2 a o w; omega⟩
    · rw [if_neg a]
      exact ⟨fun e w => (by cases w), fun q a o w => by cases w; omega⟩
theorem p_end_le {xs : List Nat} : ∀ (nm : List Nat) (p : Nat), (∀ c ∈ nm, c ≠ 0) → p ≤ xs.length → (∀ e, p_end xs nm p = .inl e → p ≤ e ∧ e ≤ xs.length) ∧ ∀ q, p_end xs nm p = .inr q → p < q ∧ q ≤ xs.length := by
  intro nm
  induction nm with
  | nil =>
    intro p hn hp
    unfold p_end
    by_cases a : xs.getD p 0 = 62
    · rw [if_pos a]
      have := getD_pos a (by decide)
      exact ⟨fun e w => (by cases w), fun q w => by cases w; omega⟩
    · rw [if_neg a]
      exact ⟨fun e w => by cases w; omega, fun q w => by cases w⟩
  | cons c nm ih =>
    intro p hn hp
    unfold p_end
    by_cases a : xs.getD p 0 = c
    · rw [if_pos a]
      have := getD_pos a (hn c (by simp))
      have I := ih (p + 1) (fun c hc => hn c (by simp [hc])) (by omega)
      exact ⟨fun e w => by have := I.1 e w; omega, fun q w => by have := I.2 q w; omega⟩
    · rw [if_neg a]
      exact ⟨fun e w => by cases w; omega, fun q w => by cases w⟩
theorem p_com_le {xs : List Nat} {par : Option Nat} {dep : Nat} {lab : List Int32} {p : Nat} {W : List wn} {ov : Bool} (g1 : xs.getD (p + 1) 0 = 33) : (∀ e, p_com xs par dep lab p W ov = .inl e → p ≤ e ∧ e ≤ xs.length) ∧ ∀ q W1 ov1, p_com xs par dep lab p W ov = .inr (q, W1, ov1) → p < q ∧ q ≤ xs.length ∧ ∃ W2, W1 = W ++ W2 ∧ W2.length + p ≤ q := by
  have := getD_pos g1 (by decide)
  unfold p_com
  by_cases a1 : xs.getD (p + 2) 0 = 45
  · rw [if_neg (fun w => w a1)]
    have := getD_pos a1 (by decide)
    by_cases a2 : xs.getD (p + 3) 0 = 45
    · rw [if_neg (fun w => w a2)]
      have := getD_pos a2 (by decide)
      have hd := p_dash_ge (xs := xs) (p := p + 4) (by omega)
      generalize p_dash xs (p + 4) = dd at *
      by_cases a3 : xs.getD dd 0 = 45
      · rw [if_neg (fun w => w a3)]
        have := getD_pos a3 (by decide)
        by_cases a4 : xs.getD (dd + 1) 0 = 45
        · rw [if_neg (fun w => w a4)]
          have := getD_pos a4 (by decide)
          by_cases a5 : xs.getD (dd + 2) 0 = 62
          · rw [if_neg (fun w => w a5)]
            have := getD_pos a5 (by decide)
            exact ⟨fun e w => (by cases w), fun q W1 ov1 w => by cases w; exact ⟨by omega, by omega, _, rfl, by simp; omega⟩⟩
          · rw [if_pos a5]; exact ⟨fun e w => by cases w; omega, fun q W1 ov1 w => by cases w⟩
        · rw [if_pos a4]; exact ⟨fun e w => by cases w; omega, fun q W1 ov1 w => by cases w⟩
      · rw [if_pos a3]; exact ⟨fun e w => by cases w; omega, fun q W1 ov1 w => by cases w⟩
    · rw [if_pos a2]; exact ⟨fun e w => by cases w; omega, fun q W1 ov1 w => by cases w⟩
  · rw [if_pos a1]; exact ⟨fun e w => by cases w; omega, fun q W1 ov1 w => by cases w⟩
theorem p_text_le {xs : List Nat} {par : Option Nat} {dep : Nat} {lab : List Int32} {p : Nat} {W : List wn} {ov : Bool} (hp : p < xs.length) (g0 : xs.getD p 0 ≠ 60) : (∀ e, p_text xs par dep lab p W ov = .inl e → p ≤ e ∧ e ≤ xs.length) ∧ ∀ q W1 ov1, p_text xs par dep lab p W ov = .inr (q, W1, ov1) → p < q ∧ q ≤ xs.length ∧ ∃ W2, W1 = W ++ W2 ∧ W2.length + p ≤ q := by
  unfold p_text
  have hg := vE_ge (xs := xs) (stop := 60) 200 p []
  cases e : p_val xs 60 200 p [] with
  | inl e9 =>
    have := p_val_er _ _ _ e
    rw [e] at hg
    simp only [vE] at hg
    exact ⟨fun e w => by cases w; omega, fun q W1 ov1 w => by cases w⟩
  | inr x =>
    obtain ⟨q, v⟩ := x
    have := vE_gt (f := 199) hp g0 g0 e
    have := p_val_le _ _ _ (by omega) e
    exact ⟨fun e w => (by cases w), fun q W1 ov1 w => by cases w; exact ⟨by omega, by omega, _, rfl, by simp; omega⟩⟩
theorem p_piece_le {xs : List Nat} {PE : Option Nat → Nat → List Int32 → Nat → List wn → Bool → pR} {N : Nat} (hE : pOK xs PE (fun p dep => xs.getD p 0 = 60 ∧ a_small (xs.getD (p + 1) 0) = true ∧ dep ≤ 5 ∧ 6 ≤ N + dep)) : pOK xs (p_piece PE xs) (fun _ dep => 1 ≤ dep ∧ dep ≤ 6 ∧ 6 ≤ N + dep) := by
  intro par dep lab p W ov hp hG
  unfold p_piece
  by_cases g0 : xs.getD p 0 = 60
  · rw [if_neg (fun w => w g0)]
    by_cases g1 : xs.getD (p + 1) 0 = 33
    · rw [if_pos g1]; exact p_com_le g1
    · rw [if_neg g1]
      cases g2 : a_small (xs.getD (p + 1) 0) with
      | false => rw [if_pos rfl]; exact ⟨fun e w => by cases w; omega, fun q W1 ov1 w => by cases w⟩
      | true =>
        rw [if_neg (by decide)]
        by_cases g3 : 5 < dep
        · rw [if_pos g3]; exact ⟨fun e w => by cases w; omega, fun q W1 ov1 w => by cases w⟩
        · rw [if_neg g3]; exact hE par dep lab p W ov hp ⟨g0, g2, by omega, hG.2.2⟩
  · rw [if_pos g0]; exact p_text_le hp g0
theorem p_cont_le {xs : List Nat} {PP : Option Nat → Nat → List Int32 → Nat → List wn → Bool → pR} {G : Nat → Nat → Prop} (hE : pOK xs PP G) : ∀ (f k : Nat), pOKc xs (p_cont PP xs f k) G := by
  intro f
  induction f with
  | zero => intro k j dep lab p W ov hp hG; exact ⟨fun e w => by cases w; omega, fun q W1 ov1 w => by cases w⟩
  | succ f ih =>
    intro k j dep lab p W ov hp hG
    unfold p_cont
    by_cases a0 : p = xs.length
    · rw [if_pos a0]; exact ⟨fun e w => by cases w; omega, fun q W1 ov1 w => by cases w⟩
    rw [if_neg a0]
    by_cases a1 : xs.getD p 0 = 60 ∧ xs.getD (p + 1) 0 = 47
    · rw [if_pos a1]
      have := getD_pos a1.2 (by decide)
      exact ⟨fun e w => (by cases w), fun q W1 ov1 w => by cases w; exact ⟨Nat.le_refl _, by omega, [], by simp, by simp⟩⟩
    · rw [if_neg a1]
      have L := hE (some j) dep (lab ++ [2 * nI k + 1]) p W ov (by omega) (hG p)
      cases e : PP (some j) dep (lab ++ [2 * nI k + 1]) p W ov with
      | inl e9 => exact ⟨fun e8 w => by cases w; exact L.1 _ e, fun q W1 ov1 w => by cases w⟩
      | inr x =>
        obtain ⟨q, W1, ov1⟩ := x
        obtain ⟨b1, b2, W2, b3, b4⟩ := L.2 q W1 ov1 e
        have I := ih (k + 1) j dep lab q W1 ov1 (by omega) hG
        refine ⟨fun e8 w => by have := I.1 e8 w; omega, fun q2 W3 ov3 w => ?_⟩
        obtain ⟨d1, d2, W4, d3, d4⟩ := I.2 q2 W3 ov3 w
        exact ⟨by omega, d2, W2 ++ W4, by rw [d3, b3, List.append_assoc], by rw [List.length_append]; omega⟩
theorem a_let_pos {xs : List Nat} {p : Nat} (h : a_small (xs.getD p 0) = true) : a_let xs p ≠ 0 := fun w => by
  have := (a_let_small (xs := xs) (p := p)).2.2 (by omega)
  rw [w] at this
  rw [Nat.add_zero, h] at this
  cases this
theorem a_name_ne {xs : List Nat} {p : Nat} : ∀ c ∈ (xs.drop p).take (a_let xs p), a_small c = true := by
  intro c hc
  obtain ⟨i, hi, e⟩ := List.mem_iff_getElem.mp hc
  rw [List.length_take, List.length_drop] at hi
  rw [List.getElem_take, List.getElem_drop] at e
  have := (a_let_small (xs := xs) (p := p)).2.1 i (by omega)
  rw [List.getD_eq_getElem?_getD, List.getElem?_eq_getElem (by omega)] at this
  simp only [Option.getD_some] at this
  rw [← e]; exact this
theorem a_small_ne {c : Nat} (h : a_small c = true) : c ≠ 0 := fun w => by rw [w] at h; exact absurd h (by decide)
theorem p_elem_le {xs : List Nat} {PC : Nat → Nat → List Int32 → Nat → List wn → Bool → pR} {N : Nat} (hC : pOKc xs PC (fun _ dep => 1 ≤ dep ∧ dep ≤ 6 ∧ 6 ≤ N + dep)) : pOK xs (p_elem PC xs) (fun p dep => xs.getD p 0 = 60 ∧ a_small (xs.getD (p + 1) 0) = true ∧ dep ≤ 5 ∧ 6 ≤ N + 1 + dep) := by
  intro par dep lab p W ov hp ⟨g0, g1, g2, g3⟩
  have l1 : p + 1 < xs.length := getD_pos rfl (a_small_ne g1)
  have hl := a_let_le (xs := xs) (p := p + 1) (by omega)
  have hn := a_let_pos g1
  unfold p_elem
  have L := p_atts_le (xs := xs) 130 (p + 1 + a_let xs (p + 1)) [] ov (by omega)
  cases e : p_atts xs 130 (p + 1 + a_let xs (p + 1)) [] ov with
  | inl e9 => exact ⟨fun e8 w => by cases w; have := L.1 _ e; omega, fun q W1 ov1 w => by cases w⟩
  | inr x =>
    obtain ⟨q, att, ov1⟩ := x
    have := L.2 _ _ _ e
    simp only []
    by_cases a1 : xs.getD q 0 = 47
    · rw [if_pos a1]
      have := getD_pos a1 (by decide)
      by_cases a2 : xs.getD (q + 1) 0 = 62
      · rw [if_pos a2]
        have := getD_pos a2 (by decide)
        exact ⟨fun e8 w => (by cases w), fun q W1 ov1 w => by cases w; exact ⟨by omega, by omega, _, rfl, by simp; omega⟩⟩
      · rw [if_neg a2]; exact ⟨fun e8 w => by cases w; omega, fun q W1 ov1 w => by cases w⟩
    · rw [if_neg a1]
      by_cases a2 : xs.getD q 0 = 62
      · rw [if_neg (fun w => w a2)]
        have := getD_pos a2 (by decide)
        generalize hnm : (xs.drop (p + 1)).take (a_let xs (p + 1)) = nm at *
        have hnn : ∀ c ∈ nm, c ≠ 0 := fun c hc => a_small_ne (a_name_ne (xs := xs) (p := p + 1) c (by rw [hnm]; exact hc))
        have I := hC W.length (dep + 1) lab (q + 1) (W ++ [(1, par, dep, lab, att, nm)]) (ov1 || decide (3 < att.length)) (by omega) (fun p => ⟨by omega, by omega, by omega⟩)
        cases e2 : PC W.length (dep + 1) lab (q + 1) (W ++ [(1, par, dep, lab, att, nm)]) (ov1 || decide (3 < att.length)) with
        | inl e9 => exact ⟨fun e8 w => by cases w; have := I.1 _ e2; omega, fun q W1 ov1 w => by cases w⟩
        | inr x2 =>
          obtain ⟨q2, W2, ov3⟩ := x2
          obtain ⟨d1, d2, W4, d3, d4⟩ := I.2 _ _ _ e2
          have T := p_end_le (xs := xs) nm (q2 + 2) hnn d2
          simp only []
          cases e3 : p_end xs nm (q2 + 2) with
          | inl e9 => exact ⟨fun e8 w => by cases w; have := T.1 _ e3; omega, fun q W1 ov1 w => by cases w⟩
          | inr q3 =>
            have := T.2 _ e3
            exact ⟨fun e8 w => (by cases w), fun q W1 ov1 w => by cases w; exact ⟨by omega, by omega, (1, par, dep, lab, att, nm) :: W4, by rw [d3, List.append_assoc]; rfl, by simp; omega⟩⟩
      · rw [if_pos a2]; exact ⟨fun e8 w => by cases w; omega, fun q W1 ov1 w => by cases w⟩
theorem p_F_le {xs : List Nat} : ∀ N, pOK xs (p_F xs N) (fun p dep => xs.getD p 0 = 60 ∧ a_small (xs.getD (p + 1) 0) = true ∧ dep ≤ 5 ∧ 6 ≤ N + dep) := by
  intro N
  induction N with
  | zero => intro par dep lab p W ov hp hG; exact absurd hG.2.2 (by omega)
  | succ N ih => exact p_elem_le (p_cont_le (p_piece_le ih) 130 0)
