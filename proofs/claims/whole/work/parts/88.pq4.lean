-- what has been read is a tree
def wP (od : Nat) (W : List wn) (par : Option Nat) (dep : Nat) : Prop := (par = none → dep = od ∧ W = []) ∧ ∀ j, par = some j → j < W.length ∧ (W.getD j wn0).1 = 1 ∧ dep = (W.getD j wn0).2.2.1 + 1 ∧ ∀ k, j < k → k < W.length → (W.getD j wn0).2.2.1 < (W.getD k wn0).2.2.1
/-- a node that may follow W -/
def wNx (od : Nat) (W : List wn) (w : wn) : Prop := (1 ≤ w.1 ∧ w.1 < 4) ∧ wP od W w.2.1 w.2.2.1 ∧ (w.2.2.2.1.length ≤ 18 + w.2.2.1 ∧ w.2.2.1 ≤ 6) ∧ (∀ q ∈ w.2.2.2.2.1, q.1.length ≤ 6 ∧ (∀ c ∈ q.1, c < 128) ∧ ∀ c ∈ q.2, c < 128) ∧ ∀ c ∈ w.2.2.2.2.2, c < 128
def wOv (w : wn) : Prop := w.2.2.2.2.1.length ≤ 3 ∧ (∀ q ∈ w.2.2.2.2.1, q.2.length ≤ 20) ∧ w.2.2.2.2.2.length ≤ 20
def wI (od : Nat) (W : List wn) (ov : Bool) : Prop := (∀ i, i < W.length → wNx od (W.take i) (W.getD i wn0)) ∧ (ov = false → ∀ i, i < W.length → wOv (W.getD i wn0))
theorem wI.app {od : Nat} {W : List wn} {ov ov1 : Bool} {w : wn} (I : wI od W ov) (n : wNx od W w) (ho : ov1 = false → ov = false ∧ wOv w) : wI od (W ++ [w]) ov1 := by
  refine ⟨fun i hi => ?_, fun e i hi => ?_⟩
  · rw [List.length_append] at hi
    by_cases q : i < W.length
    · rw [List.take_append_of_le_length (by omega), getD_wn_l q]
      exact I.1 i q
    · have e9 : i = W.length := by simp at hi; omega
      subst e9
      have eW := getD_wn_r (W := W) (W2 := []) (w := w)
      rw [List.append_nil] at eW
      rw [List.take_left', eW]
      · exact n
      · rfl
  · rw [List.length_append] at hi
    by_cases q : i < W.length
    · rw [getD_wn_l q]
      exact I.2 (ho e).1 i q
    · have e9 : i = W.length := by simp at hi; omega
      subst e9
      have eW := getD_wn_r (W := W) (W2 := []) (w := w)
      rw [List.append_nil] at eW
      rw [eW]
      exact (ho e).2
def pS (xs : List Nat) (od : Nat) (f : Option Nat → Nat → List Int32 → Nat → List wn → Bool → pR) (G : Nat → Nat → Prop) : Prop := ∀ par dep lab p W ov, p < xs.length → G p dep → wI od W ov → wP od W par dep → lab.length ≤ 18 + dep → ∀ q W1 ov1, f par dep lab p W ov = .inr (q, W1, ov1) → wI od W1 ov1 ∧ (∃ w W2, W1 = W ++ w :: W2 ∧ w.2.2.1 = dep ∧ w.2.1 = par ∧ w.2.2.2.1 = lab) ∧ ∀ i, W.length ≤ i → i < W1.length → dep ≤ (W1.getD i wn0).2.2.1
def pSc (xs : List Nat) (od : Nat) (f : Nat → Nat → List Int32 → Nat → List wn → Bool → pR) (G : Nat → Nat → Prop) : Prop := ∀ j dep lab p W ov, p ≤ xs.length → (∀ p, G p dep) → wI od W ov → wP od W (some j) dep → lab.length + 1 ≤ 18 + dep → ∀ q W1 ov1, f j dep lab p W ov = .inr (q, W1, ov1) → wI od W1 ov1 ∧ (∃ W2, W1 = W ++ W2) ∧ ∀ i, W.length ≤ i → i < W1.length → dep ≤ (W1.getD i wn0).2.2.1
theorem wS_one {od : Nat} {W : List wn} {ov ov1 : Bool} {kd : Nat} {par : Option Nat} {dep : Nat} {lab : List Int32} {att : List (List Nat × List Nat)} {v : List Nat} (I : wI od W ov) (hk : 1 ≤ kd ∧ kd < 4) (hP : wP od W par dep) (hl : lab.length ≤ 18 + dep) (hd : dep ≤ 6) (ha : ∀ q ∈ att, q.1.length ≤ 6 ∧ (∀ c ∈ q.1, c < 128) ∧ ∀ c ∈ q.2, c < 128) (hv : ∀ c ∈ v, c < 128) (ho : ov1 = false → ov = false ∧ att.length ≤ 3 ∧ (∀ q ∈ att, q.2.length ≤ 20) ∧ v.length ≤ 20) : wI od (W ++ [(kd, par, dep, lab, att, v)]) ov1 ∧ (∃ w W2, W ++ [(kd, par, dep, lab, att, v)] = W ++ w :: W2 ∧ w.2.2.1 = dep ∧ w.2.1 = par ∧ w.2.2.2.1 = lab) ∧ ∀ i, W.length ≤ i → i < (W ++ [(kd, par, dep, lab, att, v)]).length → dep ≤ ((W ++ [(kd, par, dep, lab, att, v)]).getD i wn0).2.2.1 := by
  refine ⟨I.app ⟨hk, hP, ⟨hl, hd⟩, ha, hv⟩ (fun e => ⟨(ho e).1, (ho e).2.1, (ho e).2.2.1, (ho e).2.2.2⟩), ⟨_, [], rfl, rfl, rfl, rfl⟩, fun i h1 h2 => ?_⟩
  have e9 : i = W.length := by simp at h2; omega
  subst e9
  have eW := getD_wn_r (W := W) (W2 := []) (w := (kd, par, dep, lab, att, v))
  rw [List.append_nil] at eW
  rw [eW]
  exact Nat.le_refl _
section PQ4
variable {xs : List Nat} {od : Nat}
theorem p_text_S (hcx : ∀ c ∈ xs, c < 128) {par : Option Nat} {dep : Nat} {lab : List Int32} {p : Nat} {W : List wn} {ov : Bool} (I : wI od W ov) (hP : wP od W par dep) (hl : lab.length ≤ 18 + dep) (hd : dep ≤ 6) {q : Nat} {W1 : List wn} {ov1 : Bool} (e : p_text xs par dep lab p W ov = .inr (q, W1, ov1)) : wI od W1 ov1 ∧ (∃ w W2, W1 = W ++ w :: W2 ∧ w.2.2.1 = dep ∧ w.2.1 = par ∧ w.2.2.2.1 = lab) ∧ ∀ i, W.length ≤ i → i < W1.length → dep ≤ (W1.getD i wn0).2.2.1 := by
  unfold p_text at e
  cases ev : p_val xs 60 200 p [] with
  | inl e9 => rw [ev] at e; cases e
  | inr x =>
    obtain ⟨q2, v⟩ := x
    rw [ev] at e
    cases e
    refine wS_one I (by decide) hP hl hd (fun q hq => by cases hq) (p_val_ch hcx _ _ _ (fun c hc => by cases hc) ev) (fun e => ?_)
    rw [Bool.or_eq_false_iff] at e
    have := of_decide_eq_false e.2
    exact ⟨e.1, by simp, fun q hq => (by cases hq), by omega⟩
theorem p_com_S (hcx : ∀ c ∈ xs, c < 128) {par : Option Nat} {dep : Nat} {lab : List Int32} {p : Nat} {W : List wn} {ov : Bool} (I : wI od W ov) (hP : wP od W par dep) (hl : lab.length ≤ 18 + dep) (hd : dep ≤ 6) {q : Nat} {W1 : List wn} {ov1 : Bool} (e : p_com xs par dep lab p W ov = .inr (q, W1, ov1)) : wI od W1 ov1 ∧ (∃ w W2, W1 = W ++ w :: W2 ∧ w.2.2.1 = dep ∧ w.2.1 = par ∧ w.2.2.2.1 = lab) ∧ ∀ i, W.length ≤ i → i < W1.length → dep ≤ (W1.getD i wn0).2.2.1 := by
  unfold p_com at e
  split at e
  · cases e
  split at e
  · cases e
  split at e
  · cases e
  split at e
  · cases e
  split at e
  · cases e
  cases e
  refine wS_one I (by decide) hP hl hd (fun q hq => by cases hq) (fun c hc => hcx c (List.mem_of_mem_drop (List.mem_of_mem_take hc))) (fun e => ?_)
  rw [Bool.or_eq_false_iff] at e
  have := of_decide_eq_false e.2
  exact ⟨e.1, by simp, fun q hq => (by cases hq), by rw [List.length_take]; omega⟩
theorem p_piece_S (hcx : ∀ c ∈ xs, c < 128) {PE : Option Nat → Nat → List Int32 → Nat → List wn → Bool → pR} {N : Nat} (hE : pS xs od PE (fun p dep => xs.getD p 0 = 60 ∧ a_small (xs.getD (p + 1) 0) = true ∧ dep ≤ 5 ∧ 6 ≤ N + dep)) : pS xs od (p_piece PE xs) (fun _ dep => 1 ≤ dep ∧ dep ≤ 6 ∧ 6 ≤ N + dep) := by
  intro par dep lab p W ov hp hG I hP hl q W1 ov1 e
  unfold p_piece at e
  by_cases g0 : xs.getD p 0 = 60
  · rw [if_neg (fun w => w g0)] at e
    by_cases g1 : xs.getD (p + 1) 0 = 33
    · rw [if_pos g1] at e; exact p_com_S hcx I hP hl hG.2.1 e
    · rw [if_neg g1] at e
      cases g2 : a_small (xs.getD (p + 1) 0) with
      | false => rw [if_pos g2] at e; cases e
      | true =>
        rw [if_neg (by rw [g2]; decide)] at e
        by_cases g3 : 5 < dep
        · rw [if_pos g3] at e; cases e
        · rw [if_neg g3] at e
          exact hE par dep lab p W ov hp ⟨g0, g2, by omega, hG.2.2⟩ I hP hl q W1 ov1 e
  · rw [if_pos g0] at e; exact p_text_S hcx I hP hl hG.2.1 e
theorem wP.ext {W W2 : List wn} {j dep : Nat} (hP : wP od W (some j) dep) (h : ∀ i, W.length ≤ i → i < (W ++ W2).length → dep ≤ ((W ++ W2).getD i wn0).2.2.1) : wP od (W ++ W2) (some j) dep := by
  refine ⟨fun w => (by cases w), fun j' w => ?_⟩
  cases w
  obtain ⟨a1, a2, a3, a4⟩ := hP.2 j rfl
  rw [getD_wn_l a1]
  refine ⟨by rw [List.length_append]; omega, a2, a3, fun k h1 h2 => ?_⟩
  by_cases q : k < W.length
  · rw [getD_wn_l q]; exact a4 k h1 q
  · have := h k (by omega) h2
    omega
theorem p_cont_S {PP : Option Nat → Nat → List Int32 → Nat → List wn → Bool → pR} {G : Nat → Nat → Prop} (hO : pOK xs PP G) (hE : pS xs od PP G) : ∀ (f k : Nat), pSc xs od (p_cont PP xs f k) G := by
  intro f
  induction f with
  | zero => intro k j dep lab p W ov hp hG I hP hl q W1 ov1 e; cases e
  | succ f ih =>
    intro k j dep lab p W ov hp hG I hP hl q W1 ov1 e
    unfold p_cont at e
    by_cases a0 : p = xs.length
    · rw [if_pos a0] at e; cases e
    rw [if_neg a0] at e
    by_cases a1 : xs.getD p 0 = 60 ∧ xs.getD (p + 1) 0 = 47
    · rw [if_pos a1] at e
      cases e
      exact ⟨I, ⟨[], by simp⟩, fun i h1 h2 => by omega⟩
    · rw [if_neg a1] at e
      have O := hO (some j) dep (lab ++ [2 * nI k + 1]) p W ov (by omega) (hG p)
      have L := hE (some j) dep (lab ++ [2 * nI k + 1]) p W ov (by omega) (hG p) I hP (by rw [List.length_append]; exact hl)
      cases e2 : PP (some j) dep (lab ++ [2 * nI k + 1]) p W ov with
      | inl e9 => rw [e2] at e; cases e
      | inr x =>
        obtain ⟨q2, W2, ov2⟩ := x
        rw [e2] at e
        obtain ⟨I2, ⟨w9, W3, e3, _⟩, d3⟩ := L q2 W2 ov2 e2
        have P2 : wP od W2 (some j) dep := by rw [e3]; rw [e3] at d3; exact hP.ext d3
        obtain ⟨I4, ⟨W5, e5⟩, d5⟩ := ih (k + 1) j dep lab q2 W2 ov2 (O.2 _ _ _ e2).2.1 hG I2 P2 hl q W1 ov1 e
        refine ⟨I4, ⟨w9 :: W3 ++ W5, by rw [e5, e3, List.append_assoc]⟩, fun i h1 h2 => ?_⟩
        by_cases w : i < W2.length
        · rw [e5, getD_wn_l w]; exact d3 i h1 w
        · exact d5 i (by omega) h2
theorem p_att_ch (hcx : ∀ c ∈ xs, c < 128) {p : Nat} {as : List (List Nat × List Nat)} {q : Nat} {nv : List Nat × List Nat} (e : p_att xs p as = .inr (q, nv)) : nv.1.length ≤ 6 ∧ (∀ c ∈ nv.1, c < 128) ∧ ∀ c ∈ nv.2, c < 128 := by
  unfold p_att at e
  split at e
  · cases e
  split at e
  · cases e
  split at e
  · cases e
  cases ev : p_val xs 34 200 (p + a_let xs p + 2) [] with
  | inl e9 => rw [ev] at e; cases e
  | inr x =>
    obtain ⟨q2, v⟩ := x
    rw [ev] at e
    simp only [] at e
    split at e
    · cases e
      refine ⟨by rw [List.length_take]; have := (a_let_small (xs := xs) (p := p)).1; omega, fun c hc => hcx c (List.mem_of_mem_drop (List.mem_of_mem_take hc)), p_val_ch hcx _ _ _ (fun c hc => by cases hc) ev⟩
    · cases e
theorem p_atts_S (hcx : ∀ c ∈ xs, c < 128) : ∀ (f p : Nat) (att : List (List Nat × List Nat)) (ov : Bool), (∀ q ∈ att, q.1.length ≤ 6 ∧ (∀ c ∈ q.1, c < 128) ∧ ∀ c ∈ q.2, c < 128) → (ov = false → ∀ q ∈ att, q.2.length ≤ 20) → ∀ q att1 ov1, p_atts xs f p att ov = .inr (q, att1, ov1) → (∀ q ∈ att1, q.1.length ≤ 6 ∧ (∀ c ∈ q.1, c < 128) ∧ ∀ c ∈ q.2, c < 128) ∧ (ov1 = false → ov = false ∧ ∀ q ∈ att1, q.2.length ≤ 20) := by
  intro f
  induction f with
  | zero => intro p att ov h1 h2 q att1 ov1 e; cases e
  | succ f ih =>
    intro p att ov h1 h2 q att1 ov1 e
    unfold p_atts at e
    by_cases a : xs.getD p 0 = 32
    · rw [if_pos a] at e
      cases e2 : p_att xs (p + 1) att with
      | inl e9 => rw [e2] at e; cases e
      | inr x =>
        obtain ⟨q2, nv⟩ := x
        rw [e2] at e
        have c2 := p_att_ch hcx e2
        have := ih q2 (att ++ [nv]) (ov || decide (20 < nv.2.length)) (fun g hg => by
          rcases List.mem_append.mp hg with w | w
          · exact h1 g w
          · have : g = nv := by simpa using w
            rw [this]; exact c2) (fun eo g hg => by
          rw [Bool.or_eq_false_iff] at eo
          rcases List.mem_append.mp hg with w | w
          · exact h2 eo.1 g w
          · have : g = nv := by simpa using w
            have := of_decide_eq_false eo.2
            subst g
            omega) q att1 ov1 e
        refine ⟨this.1, fun eo => ⟨?_, (this.2 eo).2⟩⟩
        have := (this.2 eo).1
        rw [Bool.or_eq_false_iff] at this
        exact this.1
    · rw [if_neg a] at e
      cases e
      exact ⟨h1, fun eo => ⟨eo, h2 eo⟩⟩
theorem p_elem_S (hcx : ∀ c ∈ xs, c < 128) {PC : Nat → Nat → List Int32 → Nat → List wn → Bool → pR} {N : Nat} (hC : pSc xs od PC (fun _ dep => 1 ≤ dep ∧ dep ≤ 6 ∧ 6 ≤ N + dep)) : pS xs od (p_elem PC xs) (fun p dep => xs.getD p 0 = 60 ∧ a_small (xs.getD (p + 1) 0) = true ∧ dep ≤ 5 ∧ 6 ≤ N + 1 + dep) := by
  intro par dep lab p W ov hp ⟨g0, g1, g2, g3⟩ I hP hl q W1 ov1 e
  have l1 : p + 1 < xs.length := getD_pos rfl (a_small_ne g1)
  have hla := a_let_le (xs := xs) (p := p + 1) (by omega)
  have hn6 := (a_let_small (xs := xs) (p := p + 1)).1
  unfold p_elem at e
  have L := p_atts_le (xs := xs) 130 (p + 1 + a_let xs (p + 1)) [] ov (by omega)
  cases ea : p_atts xs 130 (p + 1 + a_let xs (p + 1)) [] ov with
  | inl e9 => rw [ea] at e; cases e
  | inr x =>
    obtain ⟨qa, att, ova⟩ := x
    have Lq := L.2 _ _ _ ea
    have A := p_atts_S hcx 130 (p + 1 + a_let xs (p + 1)) [] ov (fun q hq => by cases hq) (fun _ q hq => by cases hq) qa att ova ea
    rw [ea] at e
    simp only [] at e
    generalize hnm : (xs.drop (p + 1)).take (a_let xs (p + 1)) = nm at *
    have hcn : ∀ c ∈ nm, c < 128 := fun c hc => hcx c (List.mem_of_mem_drop (List.mem_of_mem_take (by rw [hnm]; exact hc)))
    have hnl : nm.length ≤ 6 := by rw [← hnm, List.length_take]; omega
    have one := wS_one (ov1 := ova || decide (3 < att.length)) (kd := 1) (att := att) (v := nm) I (by decide) hP hl (by omega) A.1 hcn (fun eo => by
      rw [Bool.or_eq_false_iff] at eo
      have := of_decide_eq_false eo.2
      exact ⟨(A.2 eo.1).1, by omega, (A.2 eo.1).2, by omega⟩)
    split at e
    · split at e
      · cases e; exact one
      · cases e
    · split at e
      · cases e
      · have a2 : xs.getD qa 0 = 62 := by rename_i w; simpa using w
        have := getD_pos a2 (by decide)
        have eW := getD_wn_r (W := W) (W2 := []) (w := (1, par, dep, lab, att, nm))
        rw [List.append_nil] at eW
        have P2 : wP od (W ++ [(1, par, dep, lab, att, nm)]) (some W.length) (dep + 1) := by
          refine ⟨fun w => (by cases w), fun j w => ?_⟩
          cases w
          rw [eW]
          exact ⟨by rw [List.length_append]; simp, rfl, rfl, fun k h1 h2 => by simp at h2; omega⟩
        have S := hC W.length (dep + 1) lab (qa + 1) (W ++ [(1, par, dep, lab, att, nm)]) (ova || decide (3 < att.length)) (by omega) (fun p => ⟨by omega, by omega, by omega⟩) one.1 P2 (by omega)
        cases e2 : PC W.length (dep + 1) lab (qa + 1) (W ++ [(1, par, dep, lab, att, nm)]) (ova || decide (3 < att.length)) with
        | inl e9 => rw [e2] at e; cases e
        | inr x2 =>
          obtain ⟨q2, W2, ov3⟩ := x2
          rw [e2] at e
          simp only [] at e
          cases e3 : p_end xs nm (q2 + 2) with
          | inl e9 => rw [e3] at e; cases e
          | inr q3 =>
            rw [e3] at e
            obtain ⟨S1, ⟨W5, S2⟩, S3⟩ := S q2 W2 ov3 e2
            cases e
            refine ⟨S1, ⟨(1, par, dep, lab, att, nm), W5, by rw [S2, List.append_assoc]; rfl, rfl, rfl, rfl⟩, fun i h1 h2 => ?_⟩
            by_cases w : i = W.length
            · rw [w, S2, getD_wn_r]; exact Nat.le_refl _
            · have := S3 i (by rw [List.length_append]; simp; omega) h2
              omega
theorem p_F_S (hcx : ∀ c ∈ xs, c < 128) : ∀ N, pS xs od (p_F xs N) (fun p dep => xs.getD p 0 = 60 ∧ a_small (xs.getD (p + 1) 0) = true ∧ dep ≤ 5 ∧ 6 ≤ N + dep) := by
  intro N
  induction N with
  | zero => intro par dep lab p W ov hp hG; exact absurd hG.2.2 (by omega)
  | succ N ih => exact p_elem_S hcx (p_cont_S (p_piece_le (p_F_le N)) (p_piece_S hcx ih) 130 0)
theorem p_doc_S (hcx : ∀ c ∈ xs, c < 128) {W : List wn} {ov : Bool} (e : p_doc xs = .inr (W, ov)) : wI 0 W ov ∧ (∃ w W2, W = w :: W2 ∧ w.2.2.1 = 0 ∧ w.2.1 = none ∧ w.2.2.2.1 = [1]) ∧ W.length ≤ xs.length := by
  unfold p_doc at e
  split at e
  · cases e
  rename_i g0
  split at e
  · cases e
  rename_i g1
  have g0' : xs.getD 0 0 = 60 := by simpa using g0
  have g1' : a_small (xs.getD 1 0) = true := by simpa using g1
  have l0 := getD_pos g0' (by decide)
  have LF := p_F_le (xs := xs) 8 none 0 [1] 0 [] false l0 ⟨g0', g1', by omega, by omega⟩
  have SF := p_F_S hcx (od := 0) 8 none 0 [1] 0 [] false l0 ⟨g0', g1', by omega, by omega⟩ ⟨fun i hi => absurd hi (Nat.not_lt_zero _), fun _ i hi => absurd hi (Nat.not_lt_zero _)⟩ ⟨fun _ => ⟨rfl, rfl⟩, fun j w => by cases w⟩ (by decide)
  cases e2 : p_F xs 8 none 0 [1] 0 [] false with
  | inl e9 => rw [e2] at e; cases e
  | inr x =>
    obtain ⟨q, W1, ov1⟩ := x
    rw [e2] at e
    simp only [p_fin] at e
    split at e
    · cases e
      obtain ⟨S1, ⟨w, W2, S2, S3⟩, _⟩ := SF q W ov e2
      obtain ⟨_, b2, W3, b3, b4⟩ := LF.2 _ _ _ e2
      refine ⟨S1, ⟨w, W2, S2, S3⟩, ?_⟩
      rw [b3, List.length_append]; simp; omega
    · cases e
theorem p_one_S (hcx : ∀ c ∈ xs, c < 128) {lab : List Int32} (hod : 1 ≤ od ∧ od ≤ 6) (hll : lab.length ≤ 18 + od) {W : List wn} {ov : Bool} (e : p_one xs od lab = .inr (W, ov)) : wI od W ov ∧ (∃ w W2, W = w :: W2 ∧ w.2.2.1 = od ∧ w.2.1 = none ∧ w.2.2.2.1 = lab) ∧ W.length ≤ xs.length ∧ ∀ i, i < W.length → od ≤ (W.getD i wn0).2.2.1 := by
  unfold p_one at e
  split at e
  · cases e
  rename_i g0
  have LF := p_piece_le (p_F_le (xs := xs) 8) none od lab 0 [] false (by omega) ⟨hod.1, hod.2, by omega⟩
  have SF := p_piece_S hcx (p_F_S hcx (od := od) 8) none od lab 0 [] false (by omega) ⟨hod.1, hod.2, by omega⟩ ⟨fun i hi => absurd hi (Nat.not_lt_zero _), fun _ i hi => absurd hi (Nat.not_lt_zero _)⟩ ⟨fun _ => ⟨rfl, rfl⟩, fun j w => by cases w⟩ hll
  cases e2 : p_piece (p_F xs 8) xs none od lab 0 [] false with
  | inl e9 => rw [e2] at e; cases e
  | inr x =>
    obtain ⟨q, W1, ov1⟩ := x
    rw [e2] at e
    simp only [p_fin] at e
    split at e
    · cases e
      obtain ⟨S1, ⟨w, W2, S2, S3⟩, S4⟩ := SF q W ov e2
      obtain ⟨_, b2, W3, b3, b4⟩ := LF.2 _ _ _ e2
      refine ⟨S1, ⟨w, W2, S2, S3⟩, ?_, fun i hi => S4 i (Nat.zero_le _) hi⟩
      rw [b3, List.length_append]; simp; omega
    · cases e
end PQ4
