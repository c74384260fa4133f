-- what every call keeps
def nd_at (n : Nat) (D : Nat → nd) : Prop := ∀ k, k < n → (D k).2.1 ≠ 1 → (D k).2.2.2.2.1 = []
def nd_X (n : Nat) (D : Nat → nd) : Prop := nd_d5 n D ∧ nd_lb n D ∧ nd_at n D
def aX (mk n : Nat) (D : Nat → nd) (m : Nat) (D2 : Nat → nd) (xs : List Nat) (rs : List Int32) : Prop := aOK mk n D m D2 xs rs ∧ nd_X n D ∧ nd_X m D2
def wAt (W : List wn) : Prop := ∀ w ∈ W, w.1 ≠ 1 → w.2.2.2.2.1 = []
theorem wAt.snoc {W : List wn} {w : wn} (h : wAt W) (k : w.1 ≠ 1 → w.2.2.2.2.1 = []) : wAt (W ++ [w]) := fun v hv => by
  rw [List.mem_append, List.mem_singleton] at hv
  rcases hv with hv | hv
  · exact h v hv
  · rw [hv]; exact k
theorem p_elem_at {PC : Nat → Nat → List Int32 → Nat → List wn → Bool → pR} {xs : List Nat} {par : Option Nat} {dep : Nat} {lab : List Int32} {p q : Nat} {W W1 : List wn} {ov ov1 : Bool} (hC : ∀ j dep lab p W ov q W1 ov1, wAt W → PC j dep lab p W ov = .inr (q, W1, ov1) → wAt W1) (hW : wAt W) (e : p_elem PC xs par dep lab p W ov = .inr (q, W1, ov1)) : wAt W1 := by
  rw [p_elem_st] at e
  cases es : p_st xs p ov with
  | inl e1 => rw [es] at e; cases e
  | inr r =>
    obtain ⟨q0, att, ov0, cl⟩ := r
    rw [es] at e
    simp only [] at e
    have hn : wAt (W ++ [(1, par, dep, lab, att, (xs.drop (p + 1)).take (a_let xs (p + 1)))]) := hW.snoc (fun k => absurd rfl k)
    cases cl with
    | true =>
      rw [if_pos rfl] at e
      cases e
      exact hn
    | false =>
      rw [if_neg (by decide)] at e
      cases ep : PC W.length (dep + 1) lab q0 (W ++ [(1, par, dep, lab, att, (xs.drop (p + 1)).take (a_let xs (p + 1)))]) ov0 with
      | inl e1 => rw [ep] at e; cases e
      | inr r2 =>
        obtain ⟨q2, W2, ov2⟩ := r2
        rw [ep] at e
        simp only [] at e
        cases ee : p_end xs ((xs.drop (p + 1)).take (a_let xs (p + 1))) (q2 + 2) with
        | inl e1 => rw [ee] at e; cases e
        | inr q3 =>
          rw [ee] at e
          cases e
          exact hC _ _ _ _ _ _ _ _ _ hn ep
theorem p_piece_at {PE : Option Nat → Nat → List Int32 → Nat → List wn → Bool → pR} {xs : List Nat} {par : Option Nat} {dep : Nat} {lab : List Int32} {p q : Nat} {W W1 : List wn} {ov ov1 : Bool} (hE : ∀ par dep lab p W ov q W1 ov1, wAt W → PE par dep lab p W ov = .inr (q, W1, ov1) → wAt W1) (hW : wAt W) (e : p_piece PE xs par dep lab p W ov = .inr (q, W1, ov1)) : wAt W1 := by
  unfold p_piece at e
  split at e
  · unfold p_text at e
    split at e
    · cases e
    · cases e
      exact hW.snoc (fun _ => rfl)
  · split at e
    · unfold p_com at e
      split at e
      · cases e
      · split at e
        · cases e
        · split at e
          · cases e
          · split at e
            · cases e
            · split at e
              · cases e
              · cases e
                exact hW.snoc (fun _ => rfl)
    · split at e
      · cases e
      · split at e
        · cases e
        · exact hE _ _ _ _ _ _ _ _ _ hW e
theorem p_cont_at {PP : Option Nat → Nat → List Int32 → Nat → List wn → Bool → pR} {xs : List Nat} (hP : ∀ par dep lab p W ov q W1 ov1, wAt W → PP par dep lab p W ov = .inr (q, W1, ov1) → wAt W1) : ∀ (f k j dep : Nat) (lab : List Int32) (p : Nat) (W : List wn) (ov : Bool) (q : Nat) (W1 : List wn) (ov1 : Bool), wAt W → p_cont PP xs f k j dep lab p W ov = .inr (q, W1, ov1) → wAt W1 := by
  intro f
  induction f with
  | zero => intro k j dep lab p W ov q W1 ov1 _ e; cases e
  | succ f ih =>
    intro k j dep lab p W ov q W1 ov1 hW e
    unfold p_cont at e
    split at e
    · cases e
    · split at e
      · cases e
        exact hW
      · split at e
        · cases e
        · rename_i q2 W2 ov2 ep
          exact ih _ _ _ _ _ _ _ _ _ _ (hP _ _ _ _ _ _ _ _ _ hW ep) e
theorem p_F_at {xs : List Nat} : ∀ (N : Nat) (par : Option Nat) (dep : Nat) (lab : List Int32) (p : Nat) (W : List wn) (ov : Bool) (q : Nat) (W1 : List wn) (ov1 : Bool), wAt W → p_F xs N par dep lab p W ov = .inr (q, W1, ov1) → wAt W1 := by
  intro N
  induction N with
  | zero => intro par dep lab p W ov q W1 ov1 _ e; cases e
  | succ N ih =>
    intro par dep lab p W ov q W1 ov1 hW e
    exact p_elem_at (fun j dep lab p W ov q W1 ov1 hW e => p_cont_at (fun par dep lab p W ov q W1 ov1 hW e => p_piece_at ih hW e) 130 0 j dep lab p W ov q W1 ov1 hW e) hW e
theorem p_fin_at {xs : List Nat} {r : pR} {W : List wn} {ov : Bool} (e : p_fin xs r = .inr (W, ov)) (h : ∀ q W1 ov1, r = .inr (q, W1, ov1) → wAt W1) : wAt W := by
  unfold p_fin at e
  cases r with
  | inl e1 => cases e
  | inr x =>
    obtain ⟨q, W1, ov1⟩ := x
    simp only [] at e
    split at e
    · cases e; exact h _ _ _ rfl
    · cases e
theorem wAt_nil : wAt [] := fun w hw => by cases hw
theorem p_doc_at {xs : List Nat} {W : List wn} {ov : Bool} (e : p_doc xs = .inr (W, ov)) : wAt W := by
  unfold p_doc at e
  split at e
  · cases e
  · split at e
    · cases e
    · exact p_fin_at e (fun q W1 ov1 h => p_F_at _ _ _ _ _ _ _ _ _ _ wAt_nil h)
theorem p_one_at {xs : List Nat} {dep : Nat} {lab : List Int32} {W : List wn} {ov : Bool} (e : p_one xs dep lab = .inr (W, ov)) : wAt W := by
  unfold p_one at e
  split at e
  · cases e
  · exact p_fin_at e (fun q W1 ov1 h => p_piece_at (fun par dep lab p W ov q W1 ov1 hW e => p_F_at _ _ _ _ _ _ _ _ _ _ hW e) wAt_nil h)
section QT1
variable {mk n m : Nat} {D D2 : Nat → nd} {xs : List Nat} {rs : List Int32} {ch : Int32}
theorem nd_X.set {k : Nat} {t : List Nat} (h : nd_X n D) : nd_X n (nd_set D k t) := by
  have e : ∀ i, (nd_set D k t i).2.1 = (D i).2.1 ∧ (nd_set D k t i).2.2.1 = (D i).2.2.1 ∧ (nd_set D k t i).2.2.2.1 = (D i).2.2.2.1 ∧ (nd_set D k t i).2.2.2.2.1 = (D i).2.2.2.2.1 := fun i => by
    by_cases q : i = k
    · rw [q, nd_set_s]; exact ⟨rfl, rfl, rfl, rfl⟩
    · rw [nd_set_n q]; exact ⟨rfl, rfl, rfl, rfl⟩
  refine ⟨fun i hi hk => ?_, fun i hi p hp => ?_, fun i hi hk => ?_⟩
  · rw [nd_set_pa]
    exact h.1 i hi (by rw [← (e i).1]; exact hk)
  · rw [(e i).2.2.1, (e p).2.2.1]
    exact h.2.1 i hi p (by rw [← (e i).2.1]; exact hp)
  · rw [(e i).2.2.2]
    exact h.2.2 i hi (by rw [← (e i).1]; exact hk)
theorem nd_X.cut {f t : Nat} (ok : nd_ok mk n D) (h : nd_X n D) (hft : f ≤ t) (ht : t ≤ n) (cl : nd_cl n D f t) : nd_X (n - (t - f)) (nd_cut D f t) := by
  refine ⟨fun i hi hk => ?_, fun i hi p hp => ?_, fun i hi hk => ?_⟩
  · rw [nd_cut_dep ok hft ht cl i hi]
    exact h.1 _ (nd_ix_lt hft ht hi).1 hk
  · have il := nd_ix_lt hft ht hi
    change ((D (nd_ix f t i)).2.2.1).map (nd_sh f t) = some p at hp
    cases e : (D (nd_ix f t i)).2.2.1 with
    | none => rw [e] at hp; cases hp
    | some p0 =>
      rw [e] at hp
      have hp0 : nd_sh f t p0 = p := by cases hp; rfl
      have c := cl _ il.1 il.2 p0 e
      show lbK (D (nd_ix f t p)).2.2.2.1.length (D (nd_ix f t i)).2.2.2.1
      rw [← hp0, nd_ix_sh hft c]
      exact h.2.1 _ il.1 p0 e
  · exact h.2.2 _ (nd_ix_lt hft ht hi).1 hk
theorem lbK_app {P T : List Int32} (h : lbK 0 T) : lbK P.length (P ++ T) := by
  refine ⟨by rw [List.length_append]; have := h.1; omega, fun i h1 h2 => ?_⟩
  rw [List.length_append] at h2 ⊢
  rw [getD_app h1, h.2 (i - P.length) (Nat.zero_le _) (by omega)]
  rw [decide_eq_decide]
  omega
theorem lbK_one {v : Int32} (h : a_odd v = true) : lbK 0 [v] := ⟨by simp, fun i _ hi => by
  have : i = 0 := by simp at hi; exact hi
  subst this
  show a_odd v = decide (0 + 1 = 1)
  rw [h]
  rfl⟩
theorem nd_X.ins {sp od : Nat} {po : Option Nat} {W : List wn} {ov : Bool} (ok : nd_ok mk n D) (S : nd_spot n D sp po od) (I : wI od W ov) (h : nd_X n D) (ha : wAt W) (h0 : ∀ pp, po = some pp → ∃ T, lbK 0 T ∧ (W.getD 0 wn0).2.2.2.1 = (D pp).2.2.2.1 ++ T) : nd_X (n + W.length) (nd_ins D sp mk po W) := by
  have spn := S.1
  have ppn : ∀ pp, po = some pp → pp < sp := fun pp e => by
    rcases S.2 with ⟨w, _⟩ | ⟨q, w, h3, _⟩
    · rw [w] at e; cases e
    · rw [w] at e; cases e; exact h3
  refine ⟨fun k hk kd => ?_, fun k hk p hp => ?_, fun k hk kd => ?_⟩
  · have dp := nd_ins_dep ok S I (k + 1) k (by omega) hk
    rcases nd_ins_c (sp := sp) hk with q | ⟨i, hi, rfl⟩ | ⟨j, h1, h2, rfl⟩
    · rw [dp.1 q]
      rw [nd_ins_1 q] at kd
      exact h.1 k (by omega) kd
    · rw [dp.2.1 i hi rfl]
      rw [nd_ins_2 hi] at kd
      exact (I.1 i hi).2.2.1.2.2.1 kd
    · rw [dp.2.2 j h1 h2 rfl]
      rw [nd_ins_3 h1] at kd
      exact h.1 j h2 kd
  · rcases nd_ins_c (sp := sp) hk with q | ⟨i, hi, rfl⟩ | ⟨j, h1, h2, rfl⟩
    · rw [nd_ins_1 q] at hp ⊢
      have pk := (ok.2 k (by omega)).2.2.1 p hp
      rw [nd_ins_1 (by omega)]
      exact h.2.1 k (by omega) p hp
    · rw [nd_ins_2 hi] at hp ⊢
      change nd_wp sp po (W.getD i wn0).2.1 = some p at hp
      show lbK _ (W.getD i wn0).2.2.2.1
      cases e2 : (W.getD i wn0).2.1 with
      | none =>
        rw [e2] at hp
        change po = some p at hp
        have i0 := ((I.par hi).1 e2).2
        subst i0
        obtain ⟨T, t1, t2⟩ := h0 p hp
        rw [nd_ins_1 (ppn p hp), t2]
        exact lbK_app t1
      | some j =>
        rw [e2] at hp
        have hpj : sp + j = p := by cases hp; rfl
        have hj := (I.par hi).2 j e2
        have lb := (I.1 i hi).2.2.1.2.2.2 j e2
        have tk : (W.take i).getD j wn0 = W.getD j wn0 := by
          rw [List.getD_eq_getElem?_getD, List.getElem?_take, if_pos hj.1, ← List.getD_eq_getElem?_getD]
        rw [tk] at lb
        rw [← hpj, nd_ins_2 (by omega), lb]
        exact lbK_app (lbK_one odd_cnt)
    · rw [nd_ins_3 h1] at hp ⊢
      change (D j).2.2.1.map (nd_sf sp W.length) = some p at hp
      show lbK _ (D j).2.2.2.1
      cases e2 : (D j).2.2.1 with
      | none => rw [e2] at hp; cases hp
      | some p0 =>
        rw [e2] at hp
        have hp0 : nd_sf sp W.length p0 = p := by cases hp; rfl
        have l := h.2.1 j h2 p0 e2
        rw [← hp0]
        unfold nd_sf
        by_cases q : p0 < sp
        · rw [if_pos q, nd_ins_1 q]; exact l
        · rw [if_neg q, nd_ins_3 (by omega)]; exact l
  · rcases nd_ins_c (sp := sp) hk with q | ⟨i, hi, rfl⟩ | ⟨j, h1, h2, rfl⟩
    · rw [nd_ins_1 q] at kd ⊢
      exact h.2.2 k (by omega) kd
    · rw [nd_ins_2 hi] at kd ⊢
      exact ha _ (getD_mem' (d := wn0) hi) kd
    · rw [nd_ins_3 h1] at kd ⊢
      exact h.2.2 j h2 kd
theorem nd_X0 : nd_X 0 D := ⟨fun k hk => absurd hk (Nat.not_lt_zero _), fun k hk => absurd hk (Nat.not_lt_zero _), fun k hk => absurd hk (Nat.not_lt_zero _)⟩
end QT1
-- every call keeps it
section QT2
variable {mk n m : Nat} {D D2 : Nat → nd} {xs : List Nat} {rs : List Int32} {ch : Int32}
theorem aX.nil (h : aX mk n D m D2 xs rs) : aX mk n D m D2 [] rs := by
  obtain ⟨⟨a1, a2, a3, a4, a5, a6, a7, a8, a9, a10⟩, x1, x2⟩ := h
  exact ⟨⟨a1, a2, a3, by simp, fun c hc => (by cases hc), a6, a7, a8, a9, a10⟩, x1, x2⟩
theorem aX.type (h : aX mk n D m D2 xs rs) {q : Nat} (h1 : 32 ≤ q) (h2 : q ≤ 126) (h3 : xs.length < 120) : aX mk n D m D2 (xs ++ [q]) rs := by
  obtain ⟨⟨a1, a2, a3, a4, a5, a6, a7, a8, a9, a10⟩, x1, x2⟩ := h
  refine ⟨⟨a1, a2, a3, by rw [len_snoc]; omega, fun c hc => ?_, a6, a7, a8, a9, a10⟩, x1, x2⟩
  rw [List.mem_append, List.mem_singleton] at hc
  rcases hc with hc | hc
  · exact a5 c hc
  · rw [hc]; exact ⟨h1, h2⟩
theorem aX.found (h : aX mk n D m D2 xs rs) {l : List Int32} (hl : l.length ≤ 40) : aX mk n D m D2 xs l := by
  obtain ⟨⟨a1, a2, a3, a4, a5, a6, a7, a8, a9, a10⟩, x1, x2⟩ := h
  exact ⟨⟨a1, a2, a3, a4, a5, hl, a7, a8, a9, a10⟩, x1, x2⟩
theorem aX.commit (h : aX mk n D m D2 xs rs) : aX mk n D n D xs rs := by
  obtain ⟨⟨a1, a2, a3, a4, a5, a6, a7, a8, a9, a10⟩, x1, x2⟩ := h
  exact ⟨⟨a1, a1, a3, a4, a5, a6, a8, a8, a9, a9⟩, x1, x1⟩
theorem aX.crash (h : aX mk n D m D2 xs rs) : aX mk m D2 m D2 [] rs := by
  obtain ⟨⟨a1, a2, a3, a4, a5, a6, a7, a8, a9, a10⟩, x1, x2⟩ := h
  exact ⟨⟨a2, a2, a3, by simp, fun c hc => (by cases hc), a6, a7, a7, a10, a10⟩, x2, x2⟩
theorem aX.set (h : aX mk n D m D2 xs rs) {j : Nat} {t : List Nat} (ht : t.length ≤ 20) (hc : ∀ c ∈ t, c < 128) : aX mk n (nd_set D j t) m D2 xs rs := by
  obtain ⟨⟨a1, a2, a3, a4, a5, a6, a7, a8, a9, a10⟩, x1, x2⟩ := h
  exact ⟨⟨nd_set_ok a1 ht hc, a2, a3, a4, a5, a6, a7, nd_set_inj a8, nd_set_pre a9, a10⟩, x1.set, x2⟩
theorem aX.cut (h : aX mk n D m D2 xs rs) {f t : Nat} (h0 : 0 < f) (hft : f ≤ t) (ht : t ≤ n) (cl : nd_cl n D f t) : aX mk (n - (t - f)) (nd_cut D f t) m D2 xs rs := by
  obtain ⟨⟨a1, a2, a3, a4, a5, a6, a7, a8, a9, a10⟩, x1, x2⟩ := h
  exact ⟨⟨nd_cut_ok a1 h0 hft ht cl, a2, a3, a4, a5, a6, a7, nd_cut_inj a8 hft ht, nd_cut_pre a1 a9 hft ht cl, a10⟩, x1.cut a1 hft ht cl, x2⟩
theorem nd_root {k : Nat} (ok : nd_ok mk n D) (hk : k < n) (hp : (D k).2.2.1 ≠ none) : 0 < k := by
  rcases Nat.eq_zero_or_pos k with e | e
  · exfalso
    cases q : (D k).2.2.1 with
    | none => exact hp q
    | some p => have := (ok.2 k hk).2.2.1 p q; omega
  · exact e
/-- what is removed -/
theorem aX.remove (h : aX mk n D m D2 xs rs) {x : Int32} {k : Nat} (e : a_at n D x = some k) (hp : (D k).2.2.1 ≠ none) : (a_join n D k = none → aX mk (n - (a_end n D k - k)) (nd_cut D k (a_end n D k)) m D2 xs rs) ∧ ∀ i, a_join n D k = some i → (D i).2.2.2.2.2.length + (D (a_end n D k)).2.2.2.2.2.length ≤ 20 → aX mk (n - (a_end n D k + 1 - k)) (nd_cut (nd_set D i ((D i).2.2.2.2.2 ++ (D (a_end n D k)).2.2.2.2.2)) k (a_end n D k + 1)) m D2 xs rs := by
  have hk := (a_at_some e).1
  have ok := h.1.1
  have pre : nd_pre n D := h.1.2.2.2.2.2.2.2.2.1
  have k0 := nd_root ok hk hp
  have hs := mp_end_spec (pa := fun k => (D k).2.2.1) hk
  have e1 : a_end n D k = mp_end (fun k => (D k).2.2.1) n k := rfl
  refine ⟨fun _ => h.cut k0 (by omega) (by omega) (nd_end_cl ok pre hk), fun i hj hlen => ?_⟩
  unfold a_join at hj
  cases el : a_left D k with
  | none => rw [el] at hj; cases hj
  | some i0 =>
    rw [el] at hj
    simp only [] at hj
    split at hj
    · rename_i c
      cases hj
      have hi : i < n := by have := (mp_lst_some k el).1; omega
      have ci : ∀ c ∈ (D i).2.2.2.2.2 ++ (D (a_end n D k)).2.2.2.2.2, c < 128 := fun v hc => by
        rw [List.mem_append] at hc
        rcases hc with hc | hc
        · exact (ok.2 i hi).2.2.2.2.2.2.2.1 v hc
        · exact (ok.2 _ c.2.1).2.2.2.2.2.2.2.1 _ hc
      have hX := h.set (j := i) (t := (D i).2.2.2.2.2 ++ (D (a_end n D k)).2.2.2.2.2) (by rw [List.length_append]; omega) ci
      have cl := nd_end_cl1 ok pre hk c.2.1 (by rw [show (D (mp_end (fun k => (D k).2.2.1) n k)).2.1 = 2 from c.2.2.2]; decide)
      refine hX.cut k0 (by omega) (by have := c.2.1; omega) (fun i2 h1 h2 p hp2 => cl i2 h1 h2 p ?_)
      have := congrFun (nd_set_pa (D := D) (k := i) (t := (D i).2.2.2.2.2 ++ (D (a_end n D k)).2.2.2.2.2)) i2
      exact this.symm.trans hp2
    · cases hj
theorem a_query_len (ok : nd_ok mk n D) {x : Int32} {l : List Int32} (e : a_query n D xs x = .inr l) : l.length ≤ 40 := by
  unfold a_query at e
  split at e
  · cases e
  · split at e
    · cases e
    · cases e
      rw [List.length_map]
      have hq := ok.1
      refine Nat.le_trans (List.length_filter_le _ (List.range n)) ?_
      rw [List.length_range]
      exact hq
/-- what is loaded -/
theorem a_load_some {W : List wn} (e : a_load mk xs = .inr (some W)) : p_doc xs = .inr (W, false) ∧ (∀ i, i < W.length → (W.getD i wn0).2.2.2.1.length ≤ 16) ∧ W.length ≤ 40 ∧ mk + W.length ≤ 200 := by
  unfold a_load at e
  cases ep : p_doc xs with
  | inl e1 => rw [ep] at e; cases e
  | inr r =>
    obtain ⟨W1, ov⟩ := r
    rw [ep] at e
    simp only [] at e
    split at e
    · cases e
    · rename_i q
      cases e
      have q1 : a_over W ov = false := by
        cases h : a_over W ov with
        | false => rfl
        | true => exact absurd (Or.inl h) q
      unfold a_over at q1
      rw [Bool.or_eq_false_iff, List.any_eq_false] at q1
      refine ⟨by rw [q1.1], fun i hi => ?_, by omega, by omega⟩
      have := q1.2 _ (getD_mem' (d := wn0) hi)
      simpa using this
theorem aX.load (h : aX mk n D m D2 xs rs) {W : List wn} (e : a_load mk xs = .inr (some W)) : aX (mk + W.length) W.length (nd_ins D 0 mk none W) W.length (nd_ins D 0 mk none W) [] rs := by
  obtain ⟨ep, l16, l40, m200⟩ := a_load_some e
  have ok := h.1
  have hc : ∀ c ∈ xs, c < 128 := fun c hc => by have := ok.2.2.2.2.1 c hc; omega
  obtain ⟨S1, ⟨w, W2, S2, S3, S4, S5⟩, S6⟩ := p_doc_S hc (by have := ok.2.2.2.1; omega) ep
  have ok0 : nd_ok mk 0 D := ⟨Nat.zero_le _, fun k hk => absurd hk (Nat.not_lt_zero _)⟩
  have sp : nd_spot 0 D 0 none 0 := ⟨Nat.le_refl _, Or.inl ⟨rfl, rfl, rfl⟩⟩
  have o := nd_ins_ok (mk := mk) ok0 sp S1 l16 (by omega)
  have i := nd_ins_inj (mk := mk) (W := W) ok0 sp (fun i j hi => absurd hi (Nat.not_lt_zero _))
  have p := nd_ins_pre (mk := mk) ok0 sp S1 (fun k hk => absurd hk (Nat.not_lt_zero _)) (fun i _ => Nat.zero_le _)
  have x := nd_X.ins (mk := mk) ok0 sp S1 (nd_X0 (D := D)) (p_doc_at ep) (fun pp e => by cases e)
  rw [Nat.zero_add] at o i p x
  exact ⟨⟨o, o, m200, by simp, fun c hc => (by cases hc), ok.2.2.2.2.2.1, i, i, p, p⟩, x, x⟩
/-- what is put in -/
theorem a_ins_some {x wh : Int32} {sp pp : Nat} {W : List wn} (e : a_insert mk n D xs x wh = .inr (.inr (sp, pp, W))) : ∃ k, a_at n D x = some k ∧ a_pp D k wh = some pp ∧ (D pp).2.1 = 1 ∧ sp = a_sp n D k wh ∧ p_one xs (mp_dep (fun k => (D k).2.2.1) pp + 1) (a_nlab n D pp sp) = .inr (W, false) ∧ (∀ i, i < W.length → (W.getD i wn0).2.2.2.1.length ≤ 16) ∧ n + W.length ≤ 40 ∧ mk + W.length ≤ 200 := by
  unfold a_insert at e
  cases ea : a_at n D x with
  | none => rw [ea] at e; cases e
  | some k =>
    rw [ea] at e
    simp only [] at e
    split at e
    · cases e
    · cases ep : a_pp D k wh with
      | none => rw [ep] at e; cases e
      | some pp0 =>
        rw [ep] at e
        simp only [] at e
        split at e
        · rename_i k1
          unfold a_ins2 at e
          cases e1 : p_one xs (mp_dep (fun k => (D k).2.2.1) pp0 + 1) (a_nlab n D pp0 (a_sp n D k wh)) with
          | inl e2 => rw [e1] at e; cases e
          | inr r =>
            obtain ⟨W1, ov⟩ := r
            rw [e1] at e
            simp only [] at e
            unfold a_ins3 a_jn at e
            split at e
            · split at e <;> cases e
            · split at e
              · split at e <;> cases e
              · split at e
                · cases e
                · rename_i q
                  cases e
                  have q1 : a_over W ov = false := by
                    cases h : a_over W ov with
                    | false => rfl
                    | true => exact absurd (Or.inl h) q
                  unfold a_over at q1
                  rw [Bool.or_eq_false_iff, List.any_eq_false] at q1
                  refine ⟨k, rfl, ep, k1, rfl, by rw [e1, q1.1], fun i hi => ?_, by omega, by omega⟩
                  have := q1.2 _ (getD_mem' (d := wn0) hi)
                  simpa using this
        · cases e
theorem aX.put {st : mT} (I : mPIC st mk n D m D2 xs rs ch) (h : aX mk n D m D2 xs rs) {x wh : Int32} {sp pp : Nat} {W : List wn} (e : a_insert mk n D xs x wh = .inr (.inr (sp, pp, W))) : aX (mk + W.length) (n + W.length) (nd_ins D sp mk (some pp) W) m D2 [] rs := by
  obtain ⟨k, ea, epp, k1, esp, ep, l16, l40, m200⟩ := a_ins_some e
  have ok := h.1
  have okn := ok.1
  have pre : nd_pre n D := ok.2.2.2.2.2.2.2.2.1
  have hk := (a_at_some ea).1
  have hc : ∀ c ∈ xs, c < 128 := fun c hc => by have := ok.2.2.2.2.1 c hc; omega
  have hpp : pp < n := by
    unfold a_pp at epp
    split at epp
    · have := (okn.2 k hk).2.2.1 pp epp; omega
    · cases epp; exact hk
  have spot : nd_spot n D sp (some pp) (mp_dep (fun k => (D k).2.2.1) pp + 1) := by rw [esp]; exact nd_spot_of okn pre hk epp k1
  have dd := h.2.1.1 pp hpp k1
  obtain ⟨⟨d, M⟩, _⟩ := I
  have lb := h.2.1.2.1
  have hP := (okn.2 pp hpp).2.2.2.1
  have lfs : ∀ i, a_lf D pp sp = some i → i < n ∧ lbK (D pp).2.2.2.1.length (D i).2.2.2.1 ∧ (D i).2.2.2.1.length ≤ 16 := fun i e => by
    have hh := mp_lst_some sp e
    have hi : i < n := by have := spot.1; omega
    exact ⟨hi, lb i hi pp (of_decide_eq_true hh.2), (okn.2 i hi).2.2.2.1⟩
  have rts : ∀ i, a_rt n D pp sp = some i → i < n ∧ lbK (D pp).2.2.2.1.length (D i).2.2.2.1 ∧ (D i).2.2.2.1.length ≤ 16 := fun i e => by
    have hh := mp_fst_some _ _ e
    have hi : i < n := by have := spot.1; omega
    exact ⟨hi, lb i hi pp (of_decide_eq_true hh.2), (okn.2 i hi).2.2.2.1⟩
  obtain ⟨T, s1, b1, b2, b3, b4, b5⟩ := rm_between M hP lfs rts
  have elb : a_nlab n D pp sp = (D pp).2.2.2.1 ++ T := b1
  have lab17 : (a_nlab n D pp sp).length ≤ 18 + (mp_dep (fun k => (D k).2.2.1) pp + 1) := by
    have := (a_lb_len 20 (D pp).2.2.2.1 ((a_lf D pp sp).map (fun i => (D i).2.2.2.1)) ((a_rt n D pp sp).map (fun i => (D i).2.2.2.1)) (by omega) (fun l e => by
      cases e3 : a_lf D pp sp with
      | none => rw [e3] at e; cases e
      | some i => rw [e3] at e; cases e; exact (lfs i e3).2.2) (fun l e => by
      cases e3 : a_rt n D pp sp with
      | none => rw [e3] at e; cases e
      | some i => rw [e3] at e; cases e; exact (rts i e3).2.2)).2
    unfold a_nlab
    omega
  obtain ⟨S1, ⟨w, W2, S2, S3, S4, S5⟩, S6, S7⟩ := p_one_S hc (by have := ok.2.2.2.1; omega) ⟨by omega, by omega⟩ lab17 ep
  have o := nd_ins_ok (mk := mk) okn spot S1 l16 l40
  have i := nd_ins_inj (mk := mk) (W := W) okn spot ok.2.2.2.2.2.2.2.1
  have p := nd_ins_pre (mk := mk) okn spot S1 pre S7
  have x := nd_X.ins (mk := mk) okn spot S1 h.2.1 (p_one_at ep) (fun q hq => by
    cases hq
    refine ⟨T, b4, ?_⟩
    rw [S2]
    show w.2.2.2.1 = _
    rw [S5, elb])
  exact ⟨⟨o, ok.2.1.up (by omega), m200, by simp, fun c hc => (by cases hc), ok.2.2.2.2.2.1, ok.2.2.2.2.2.2.1, i, p, ok.2.2.2.2.2.2.2.2.2⟩, x, h.2.2⟩
end QT2
