-- insert of the reference: a text joined
section QO4
variable {st : mT} {mk n : Nat} {D : Nat → nd} {d : Nat → Nat}
theorem rm_j81 {x2 : Int32} {sl : Nat → Int32} {s n1 off : Nat} {t : List Nat} (hs : s < 40) (hw : ∀ i, i < t.length → st.2.1 2 (8 + i) = nI (t.getD i 0)) (ho : (x2 = 0 ∧ off = 0) ∨ (x2 ≠ 0 ∧ off = n1)) (hl : n1 + t.length ≤ 20) : ∀ (r fu k : Nat) (g : Nat → Int32), k + r = t.length → r < fu → ∃ g2, g_joined_81 fu (nI s) x2 (nI n1) (nI t.length) (nI k) (mi st g sl) = some (g (128 * s) - 1, mm_F (mi st (upd g2 (128 * s + 3) (nI (n1 + t.length))) sl) 5 (st.1 5 + 1)) ∧ (∀ i, k ≤ i → i < t.length → g2 (128 * s + 8 + off + i) = nI (t.getD i 0)) ∧ ∀ i, i < 128 * s + 8 + off + k ∨ 128 * s + 8 + off + t.length ≤ i → g2 i = g i := by
  intro r
  induction r with
  | zero =>
    intro fu k g h1 h2
    obtain ⟨fu, rfl⟩ : ∃ f, fu = f + 1 := ⟨fu - 1, by omega⟩
    refine ⟨g, ?_, fun i h3 h4 => by omega, fun _ _ => rfl⟩
    unfold g_joined_81
    rw [if_pos (nI_le (by omega) (by omega)), nI_add, show g_set (nI s) 3 (nI (n1 + t.length)) (mi st g sl) = _ from mi_set (o := 3) _ hs (by decide), Option.bind_some]
    show (g_f (nI s) 0 (mm_F (mi st (upd g (128 * s + 3) (nI (n1 + t.length))) sl) 5 (st.1 5 + 1))).bind _ = _
    rw [show g_f (nI s) 0 (mm_F (mi st (upd g (128 * s + 3) (nI (n1 + t.length))) sl) 5 (st.1 5 + 1)) = some (upd g (128 * s + 3) (nI (n1 + t.length)) (128 * s + 0), mm_F (mi st (upd g (128 * s + 3) (nI (n1 + t.length))) sl) 5 (st.1 5 + 1)) from mp_f _ (o := 0) hs (by decide), Option.bind_some, upd_n (by omega)]
    rfl
  | succ r ih =>
    intro fu k g h1 h2
    obtain ⟨fu, rfl⟩ : ∃ f, fu = f + 1 := ⟨fu - 1, by omega⟩
    have hk : k < t.length := by omega
    obtain ⟨g2, a1, a2, a3⟩ := ih fu (k + 1) (upd g (128 * s + (8 + off + k)) (nI (t.getD k 0))) (by omega) (by omega)
    refine ⟨g2, ?_, fun i h3 h4 => ?_, fun i hi => by rw [a3 i (by omega), upd_n (by omega)]⟩
    · rw [upd_n (by omega)] at a1
      rw [← a1]
      conv => lhs; unfold g_joined_81
      rw [if_neg (nI_ge (by omega) (by omega))]
      have e8 : (8 : Int32) + nI k = nI (8 + k) := by rw [show (8 : Int32) = nI 8 from rfl, nI_add]
      have s8 : ∀ w0 o : Nat, 8 + w0 = o → o < 128 → g_joined_105 (g_joined_81 fu) (nI s) x2 (nI n1) (nI t.length) (nI k) (nI w0) 8 (nI s) (mi st g sl) = g_joined_81 fu (nI s) x2 (nI n1) (nI t.length) (nI (k + 1)) (mi st (upd g (128 * s + o) (nI (t.getD k 0))) sl) := fun w0 o ew ho => by
        unfold g_joined_105
        rw [e8, mp_ld (by omega) (by decide), mi_k (by decide) (by decide), hw k hk, show (8 : Int32) + nI w0 = nI o by rw [show (8 : Int32) = nI 8 from rfl, nI_add, ew], mi_set _ hs ho, Option.bind_some, nI_1]
      rcases ho with ⟨o1, o2⟩ | ⟨o1, o2⟩
      · rw [if_pos o1]
        exact s8 k _ (by omega) (by omega)
      · rw [if_neg o1, nI_add]
        exact s8 (n1 + k) _ (by omega) (by omega)
    · by_cases e : i = k
      · rw [e, a3 _ (by omega), show 128 * s + 8 + off + k = 128 * s + (8 + off + k) by omega, upd_s]
      · exact a2 i (by omega) h4
theorem rm_j40 {sl : Nat → Int32} {s n1 m : Nat} (hs : s < 40) (hl : n1 + m ≤ 20) : ∀ (r fu : Nat) (g : Nat → Int32), r ≤ n1 → r < fu → ∃ g2, g_joined_40 fu (nI s) 0 (nI n1) (nI m) (nI r - 1) (mi st g sl) = g_joined_81 mF (nI s) 0 (nI n1) (nI m) 0 (mi st g2 sl) ∧ (∀ i, i < r → g2 (128 * s + 8 + m + i) = g (128 * s + 8 + i)) ∧ ∀ i, i < 128 * s + 8 + m ∨ 128 * s + 8 + m + r ≤ i → g2 i = g i := by
  intro r
  induction r with
  | zero =>
    intro fu g h1 h2
    obtain ⟨fu, rfl⟩ : ∃ f, fu = f + 1 := ⟨fu - 1, by omega⟩
    refine ⟨g, ?_, fun i h3 => by omega, fun _ _ => rfl⟩
    unfold g_joined_40 g_joined_78
    rw [if_pos (by decide)]
  | succ r ih =>
    intro fu g h1 h2
    obtain ⟨fu, rfl⟩ : ∃ f, fu = f + 1 := ⟨fu - 1, by omega⟩
    have e1 : nI (r + 1) - 1 = nI r := by rw [show (1 : Int32) = nI 1 from rfl, nI_sub (by omega)]; rfl
    obtain ⟨g2, a1, a2, a3⟩ := ih fu (upd g (128 * s + (8 + m + r)) (g (128 * s + (8 + r)))) (by omega) (by omega)
    refine ⟨g2, ?_, fun i h3 => ?_, fun i hi => by rw [a3 i (by omega), upd_n (by omega)]⟩
    · rw [← a1, e1]
      conv => lhs; unfold g_joined_40
      rw [if_neg (nI_pos (by omega)), if_pos rfl, show (8 : Int32) + nI r = nI (8 + r) by rw [show (8 : Int32) = nI 8 from rfl, nI_add], mi_f hs (by omega), Option.bind_some]
      simp only []
      rw [show (8 : Int32) + nI m + nI r = nI (8 + m + r) by rw [show (8 : Int32) = nI 8 from rfl, nI_add, nI_add], mi_set _ hs (by omega), Option.bind_some, show nI r + -1 = nI r - 1 from (Int32.sub_eq_add_neg _ _).symm]
    · by_cases e : i = r
      · rw [e, a3 _ (by omega), show 128 * s + 8 + m + r = 128 * s + (8 + m + r) by omega, upd_s, show 128 * s + 8 + r = 128 * s + (8 + r) by omega]
      · rw [a2 i (by omega), upd_n (by omega)]
theorem rm_joined (M : md (st.2.1 0) n d D) (ok : nd_ok mk n D) (hmk : mk ≤ 200) {j : Nat} (hj : j < n) {t : List Nat} (ht : t.length ≤ 20) (h3 : st.2.1 2 3 = nI t.length) (h8 : ∀ i, i < t.length → st.2.1 2 (8 + i) = nI (t.getD i 0)) (x2 : Int32) : (st.1 11 ≠ 0 ∨ 20 < (D j).2.2.2.2.2.length + t.length → g_joined (nI (d j)) x2 st = some (-2000, st)) ∧ (st.1 11 = 0 → (D j).2.2.2.2.2.length + t.length ≤ 20 → ∃ st2, g_joined (nI (d j)) x2 st = some (nI (D j).1, st2) ∧ md (st2.2.1 0) n d (nd_set D j (if x2 = 0 then t ++ (D j).2.2.2.2.2 else (D j).2.2.2.2.2 ++ t)) ∧ st2.1 5 = st.1 5 + 1 ∧ (∀ k, k ≠ 5 → st2.1 k = st.1 k) ∧ ∀ a, a ≠ 0 → st2.2.1 a = st.2.1 a) := by
  have hs := (M.2.2.1 j hj).1
  have row := M.2.2.2.2.1 j hj
  have o := ok.2 j hj
  have tl := o.2.2.2.2.2.2.1
  have e0 : g_joined (nI (d j)) x2 st = (if st.1 11 = 0 then (if nI ((D j).2.2.2.2.2.length + t.length) ≤ 20 then g_joined_40 mF (nI (d j)) x2 (nI (D j).2.2.2.2.2.length) (nI t.length) (nI (D j).2.2.2.2.2.length - 1) st else some (-2000, st)) else some (-2000, st)) := by
    unfold g_joined g_joined_31
    rw [show g_f (nI (d j)) 3 st = some (st.2.1 0 (128 * d j + 3), st) from mp_f st (o := 3) hs (by decide), Option.bind_some, row.2.2.2.1]
    simp only []
    rw [show (3 : Int32) = nI 3 from rfl, mp_ld (by decide) (by decide), h3, nI_add]
  rw [e0]
  refine ⟨fun q => ?_, fun q1 q2 => ?_⟩
  · by_cases q1 : st.1 11 = 0
    · rw [if_pos q1, if_neg (show ¬ nI _ ≤ 20 from nI_ge (a := 20) (q.resolve_left (fun w => w q1)) (by omega))]
    · rw [if_neg q1]
  rw [if_pos q1, if_pos (show nI _ ≤ 20 from nI_le (b := 20) q2 (by decide))]
  have fin : ∀ (g : Nat → Int32) (off : Nat), ((x2 = 0 ∧ off = 0) ∨ (x2 ≠ 0 ∧ off = (D j).2.2.2.2.2.length)) → g (128 * d j) = st.2.1 0 (128 * d j) → (∀ i, i ≠ 128 * d j + 3 → (i < 128 * d j + 8 ∨ 128 * d j + 28 ≤ i) → g i = st.2.1 0 i) → (x2 = 0 → md_txt g (128 * d j + 8 + t.length) (D j).2.2.2.2.2) → (x2 ≠ 0 → md_txt g (128 * d j + 8) (D j).2.2.2.2.2) → ∃ st2, g_joined_81 mF (nI (d j)) x2 (nI (D j).2.2.2.2.2.length) (nI t.length) 0 (mi st g (st.2.1 3)) = some (nI (D j).1, st2) ∧ md (st2.2.1 0) n d (nd_set D j (if x2 = 0 then t ++ (D j).2.2.2.2.2 else (D j).2.2.2.2.2 ++ t)) ∧ st2.1 5 = st.1 5 + 1 ∧ (∀ k, k ≠ 5 → st2.1 k = st.1 k) ∧ ∀ a, a ≠ 0 → st2.2.1 a = st.2.1 a := fun g off ho g0 gf k0 k1 => by
    obtain ⟨g2, a1, a2, a3⟩ := rm_j81 (st := st) (x2 := x2) (sl := st.2.1 3) (n1 := (D j).2.2.2.2.2.length) (off := off) (t := t) hs h8 ho q2 t.length mF 0 g (by omega) (by unfold mF; omega)
    refine ⟨mm_F (mi st (upd g2 (128 * d j + 3) (nI ((D j).2.2.2.2.2.length + t.length))) (st.2.1 3)) 5 (st.1 5 + 1), a1.trans ?_, md_set M ok hj ?_ ?_ ?_ ?_, fF_s, fun k hk => fF_n hk, fun a ha => ?_⟩
    · rw [g0, row.1, ← nI_1, Int32.add_sub_cancel]
    · split
      · rw [List.length_append]; omega
      · rw [List.length_append]; omega
    · show upd g2 (128 * d j + 3) _ (128 * d j + 3) = _
      rw [upd_s]
      split
      · rw [List.length_append, Nat.add_comm]
      · rw [List.length_append]
    · intro i hi
      show upd g2 (128 * d j + 3) _ (128 * d j + 8 + i) = _
      rw [upd_n (by omega)]
      rcases ho with ⟨o1, o2⟩ | ⟨o1, o2⟩
      · rw [if_pos o1] at hi ⊢
        rw [List.length_append] at hi
        subst o2
        by_cases e : i < t.length
        · rw [getD_left e]
          exact a2 i (Nat.zero_le _) e
        · rw [getD_app (by omega), a3 _ (by omega)]
          have := k0 o1 (i - t.length) (by omega)
          rw [show 128 * d j + 8 + t.length + (i - t.length) = 128 * d j + 8 + i by omega] at this
          exact this
      · rw [if_neg o1] at hi ⊢
        rw [List.length_append] at hi
        subst o2
        by_cases e : i < (D j).2.2.2.2.2.length
        · rw [getD_left e, a3 _ (by omega)]
          exact k1 o1 i e
        · rw [getD_app (by omega)]
          have := a2 (i - (D j).2.2.2.2.2.length) (Nat.zero_le _) (by omega)
          rw [show 128 * d j + 8 + (D j).2.2.2.2.2.length + (i - (D j).2.2.2.2.2.length) = 128 * d j + 8 + i by omega] at this
          exact this
    · intro i h1 h2
      show upd g2 (128 * d j + 3) _ i = _
      rw [upd_n h1, a3 i (by rcases ho with ⟨o1, o2⟩ | ⟨o1, o2⟩ <;> omega)]
      exact gf i h1 h2
    · show (mi st _ (st.2.1 3)).2.1 a = _
      by_cases e : a = 3
      · rw [e]; rfl
      · exact mi_k ha e
  by_cases q0 : x2 = 0
  · obtain ⟨g2, b1, b2, b3⟩ := rm_j40 (st := st) (sl := st.2.1 3) (m := t.length) hs q2 (D j).2.2.2.2.2.length mF (st.2.1 0) (Nat.le_refl _) (by unfold mF; omega)
    rw [mi_id] at b1
    have F := fin g2 0 (Or.inl ⟨q0, rfl⟩) (b3 _ (by omega)) (fun i h1 h2 => b3 i (by omega)) (fun _ i hi => by rw [b2 i hi]; exact row.2.2.2.2.2.2.1 i hi) (fun w => absurd q0 w)
    rw [q0] at F ⊢
    rw [b1]
    exact F
  · have F := fin (st.2.1 0) _ (Or.inr ⟨q0, rfl⟩) rfl (fun _ _ _ => rfl) (fun w => absurd w q0) (fun _ => row.2.2.2.2.2.2.1)
    rw [mi_id] at F
    have e40 : g_joined_40 mF (nI (d j)) x2 (nI (D j).2.2.2.2.2.length) (nI t.length) (nI (D j).2.2.2.2.2.length - 1) st = g_joined_81 mF (nI (d j)) x2 (nI (D j).2.2.2.2.2.length) (nI t.length) 0 st := by
      rw [show g_joined_40 mF = g_joined_40 (5999 + 1) from rfl]
      unfold g_joined_40 g_joined_78
      split
      · rfl
      · first | rfl | rw [if_neg q0]
    rw [e40]
    exact F
end QO4
-- insert of the reference
theorem p_F_k1 {xs : List Nat} {N : Nat} {par : Option Nat} {dep : Nat} {lab : List Int32} {p q : Nat} {W1 : List wn} {ov ov1 : Bool} (hp : p < xs.length) (hG : xs.getD p 0 = 60 ∧ a_small (xs.getD (p + 1) 0) = true ∧ dep ≤ 5 ∧ 6 ≤ N + 1 + dep) (e : p_F xs (N + 1) par dep lab p [] ov = .inr (q, W1, ov1)) : (W1.getD 0 wn0).1 = 1 := by
  change p_elem (p_cont (p_piece (p_F xs N) xs) xs 130 0) xs par dep lab p [] ov = _ at e
  rw [p_elem_st] at e
  have LS := p_st_le (xs := xs) (ov := ov) (p := p) (by omega)
  cases es : p_st xs p ov with
  | inl e1 => rw [es] at e; cases e
  | inr r =>
    obtain ⟨q0, att, ov0, cl⟩ := r
    have lq := LS.2 q0 att ov0 cl es
    rw [es] at e
    simp only [List.nil_append, List.length_nil] at e
    cases cl with
    | true =>
      rw [if_pos rfl] at e
      cases e
      rfl
    | false =>
      rw [if_neg (by decide)] at e
      have LC := p_cont_le (p_piece_le (p_F_le (xs := xs) N)) 130 0 0 (dep + 1) lab q0 [(1, par, dep, lab, att, (xs.drop (p + 1)).take (a_let xs (p + 1)))] ov0 lq.2 (fun _ => ⟨by omega, by omega, by omega⟩)
      cases ep : p_cont (p_piece (p_F xs N) xs) xs 130 0 0 (dep + 1) lab q0 [(1, par, dep, lab, att, (xs.drop (p + 1)).take (a_let xs (p + 1)))] ov0 with
      | inl e1 => rw [ep] at e; cases e
      | inr r2 =>
        obtain ⟨q2, W2, ov2⟩ := r2
        obtain ⟨_, _, W3, l3, _⟩ := LC.2 q2 W2 ov2 ep
        rw [ep] at e
        simp only [] at e
        cases ee : p_end xs ((xs.drop (p + 1)).take (a_let xs (p + 1))) (q2 + 2) with
        | inl e1 => rw [ee] at e; cases e
        | inr q3 =>
          rw [ee] at e
          cases e
          rw [l3]
          rfl
theorem p_one_k2 {xs : List Nat} {dep : Nat} {lab : List Int32} {W : List wn} {ov : Bool} (h1 : 1 ≤ dep) (h6 : dep ≤ 6) (e : p_one xs dep lab = .inr (W, ov)) (k2 : (W.getD 0 wn0).1 = 2) : ∃ v, W = [(2, none, dep, lab, [], v)] ∧ ov = decide (20 < v.length) := by
  unfold p_one at e
  by_cases h0 : xs.length = 0
  · rw [if_pos h0] at e; cases e
  rw [if_neg h0] at e
  unfold p_fin at e
  cases ep : p_piece (p_F xs 8) xs none dep lab 0 [] false with
  | inl e1 => rw [ep] at e; cases e
  | inr r =>
    obtain ⟨q, W1, ov1⟩ := r
    rw [ep] at e
    simp only [] at e
    have e2 : W1 = W ∧ ov1 = ov := by
      split at e
      · cases e; exact ⟨rfl, rfl⟩
      · cases e
    obtain ⟨rfl, rfl⟩ := e2
    unfold p_piece at ep
    by_cases g0 : xs.getD 0 0 = 60
    · rw [if_neg (fun w => w g0)] at ep
      by_cases g1 : xs.getD (0 + 1) 0 = 33
      · rw [if_pos g1] at ep
        exfalso
        unfold p_com at ep
        split at ep
        · cases ep
        · split at ep
          · cases ep
          · split at ep
            · cases ep
            · split at ep
              · cases ep
              · split at ep
                · cases ep
                · cases ep
                  exact absurd (show (3 : Nat) = 2 from k2) (by decide)
      · rw [if_neg g1] at ep
        by_cases g2 : a_small (xs.getD (0 + 1) 0) = false
        · rw [if_pos g2] at ep; cases ep
        · rw [if_neg g2] at ep
          by_cases g3 : 5 < dep
          · rw [if_pos g3] at ep; cases ep
          · rw [if_neg g3] at ep
            have := p_F_k1 (N := 7) (by omega) ⟨g0, by simpa using g2, by omega, by omega⟩ ep
            rw [this] at k2
            exact absurd k2 (by decide)
    · rw [if_pos g0] at ep
      unfold p_text at ep
      cases ev : p_val xs 60 200 0 [] with
      | inl e1 => rw [ev] at ep; cases ep
      | inr r =>
        obtain ⟨q2, v⟩ := r
        rw [ev] at ep
        cases ep
        exact ⟨v, rfl, by rw [Bool.false_or]⟩
theorem bind_pair {o : Option (Int32 × mT)} : (o.bind fun q => some (q.1, q.2)) = o := by cases o <;> rfl
/-- labels of children -/
def nd_lb (n : Nat) (D : Nat → nd) : Prop := ∀ k, k < n → ∀ p, (D k).2.2.1 = some p → lbK (D p).2.2.2.1.length (D k).2.2.2.1
def kPC (s t : mT) : Prop := t.2.1 1 = s.2.1 1 ∧ t.2.1 56 = s.2.1 56 ∧ t.1 55 = s.1 55
section QO5
variable {s : mT} {mk n : Nat} {D : Nat → nd} {d : Nat → Nat}
theorem rm_ins3 (M : md (s.2.1 0) n d D) (ok : nd_ok mk n D) (hmk : mk ≤ 200) (lb : nd_lb n D) (h4 : s.1 4 = nI mk) {xs : List Nat} (hx : xs.length ≤ 120) (hc : ∀ c ∈ xs, c < 128) {pp sp od : Nat} (hpp : pp < n) (hod1 : 1 ≤ od) (hod6 : od ≤ 6) (hsp : nd_spot n D sp (some pp) od) {W : List wn} {ov : Bool} (ep : p_one xs od (a_nlab n D pp sp) = .inr (W, ov)) (h10 : s.1 10 = nI W.length) (hov : ovR (s.1 11) ov W.length) (hrow : ∀ i, i < W.length → i < 40 → wRow (s.2.1 2) i (W.getD i wn0)) {x1 wh : Int32} (hord : ∀ t, t.2.1 0 = s.2.1 0 → ((g_order x1 t).bind (fun q11 => (if wh = 0 then (g_inserted_345 q11.1 (nI (d pp)) q11.2) else (if wh = 2 then (g_inserted_345 (q11.1 + 1) (nI (d pp)) q11.2) else ((g_end q11.1 q11.2).bind (fun q12 => (g_inserted_345 q12.1 (nI (d pp)) q12.2))))))) = g_inserted_345 (nI sp) (nI (d pp)) t) : (∀ v, a_ins3 mk n D pp sp (a_lf D pp sp) (a_rt n D pp sp) W ov = .inl v → ∃ t, g_inserted_160 x1 wh (nI (d pp)) (mp_sl d (a_lf D pp sp)) (mp_sl d (a_rt n D pp sp)) s = some (v, t) ∧ t.2.1 0 = s.2.1 0 ∧ t.1 4 = s.1 4 ∧ t.1 5 = s.1 5 ∧ kPC s t) ∧ (∀ j tx, a_ins3 mk n D pp sp (a_lf D pp sp) (a_rt n D pp sp) W ov = .inr (.inl (j, tx)) → ∃ t, g_inserted_160 x1 wh (nI (d pp)) (mp_sl d (a_lf D pp sp)) (mp_sl d (a_rt n D pp sp)) s = some (nI (D j).1, t) ∧ md (t.2.1 0) n d (nd_set D j tx) ∧ t.1 4 = s.1 4 ∧ t.1 5 = s.1 5 + 1 ∧ kPC s t) ∧ (∀ sp2 pp2 W2, a_ins3 mk n D pp sp (a_lf D pp sp) (a_rt n D pp sp) W ov = .inr (.inr (sp2, pp2, W2)) → ∃ t d2, g_inserted_160 x1 wh (nI (d pp)) (mp_sl d (a_lf D pp sp)) (mp_sl d (a_rt n D pp sp)) s = some (nI mk, t) ∧ md (t.2.1 0) (n + W2.length) d2 (nd_ins D sp2 mk (some pp2) W2) ∧ t.1 4 = nI (mk + W2.length) ∧ t.1 5 = s.1 5 + 1 ∧ kPC s t) := by
  have hP := (ok.2 pp hpp).2.2.2.1
  have lfs : ∀ i, a_lf D pp sp = some i → i < n ∧ lbK (D pp).2.2.2.1.length (D i).2.2.2.1 ∧ (D i).2.2.2.1.length ≤ 16 := fun i e => by
    have h := mp_lst_some sp e
    have hi : i < n := by have := hsp.1; omega
    exact ⟨hi, lb i hi pp (of_decide_eq_true h.2), (ok.2 i hi).2.2.2.1⟩
  have rts : ∀ i, a_rt n D pp sp = some i → i < n ∧ lbK (D pp).2.2.2.1.length (D i).2.2.2.1 ∧ (D i).2.2.2.1.length ≤ 16 := fun i e => by
    have h := mp_fst_some _ _ e
    have hi : i < n := by have := hsp.1; omega
    exact ⟨hi, lb i hi pp (of_decide_eq_true h.2), (ok.2 i hi).2.2.2.1⟩
  obtain ⟨T, s1, b1, b2, b3, b4, b5⟩ := rm_between M hP lfs rts
  have elb : a_nlab n D pp sp = (D pp).2.2.2.1 ++ T := b1
  have labl : (a_nlab n D pp sp).length = (D pp).2.2.2.1.length + T.length := by rw [elb, List.length_append]
  have lab17 : (a_nlab n D pp sp).length ≤ 18 + od := by
    have := (a_lb_len 20 (D pp).2.2.2.1 ((a_lf D pp sp).map (fun i => (D i).2.2.2.1)) ((a_rt n D pp sp).map (fun i => (D i).2.2.2.1)) (by omega) (fun l e => by
      cases e3 : a_lf D pp sp with
      | none => rw [e3] at e; cases e
      | some i => rw [e3] at e; cases e; exact (lfs i e3).2.2) (fun l e => by
      cases e3 : a_rt n D pp sp with
      | none => rw [e3] at e; cases e
      | some i => rw [e3] at e; cases e; exact (rts i e3).2.2)).2
    unfold a_nlab
    omega
  obtain ⟨S1, ⟨w, W2, S2, S3, S4, S5⟩, S6, S7⟩ := p_one_S hc (by omega) ⟨hod1, hod6⟩ lab17 ep
  have w1 : 1 ≤ W.length := by rw [S2]; simp
  have k0 : s.2.1 2 1 = nI (W.getD 0 wn0).1 := (hrow 0 (by omega) (by omega)).2.1
  have kb := (S1.1 0 (by omega)).1
  have k2i : nI (W.getD 0 wn0).1 = 2 ↔ (W.getD 0 wn0).1 = 2 := nI_eq (b := 2) (by omega) (by decide)
  have ld1 : ∀ {β : Type} (K : Int32 → Option β), mm_ld (s.2.1 2) 5120 1 K = K (s.2.1 2 1) := fun K => mp_ld (i := 1) (by decide) (by decide)
  have kd2 : ∀ i, i < n → (nI (D i).2.1 = 2 ↔ (D i).2.1 = 2) := fun i hi => nI_eq (b := 2) (by have := (ok.2 i hi).2.1; omega) (by decide)
  have hf1 : ∀ i, i < n → g_f (nI (d i)) 1 s = some (nI (D i).2.1, s) := fun i hi => by rw [← (M.2.2.2.2.1 i hi).2.1]; exact mp_f s (o := 1) (M.2.2.1 i hi).1 (by decide)
  -- where a text is joined
  have jn : ∀ (i : Nat) (x2 : Int32) (tt : List Nat), i < n → (W.getD 0 wn0).1 = 2 → tt = (if x2 = 0 then (W.getD 0 wn0).2.2.2.2.2 ++ (D i).2.2.2.2.2 else (D i).2.2.2.2.2 ++ (W.getD 0 wn0).2.2.2.2.2) → (∀ v, a_jn i tt = .inl v → g_joined (nI (d i)) x2 s = some (v, s)) ∧ (∀ j tx, a_jn i tt = .inr (.inl (j, tx)) → ∃ t, g_joined (nI (d i)) x2 s = some (nI (D j).1, t) ∧ md (t.2.1 0) n d (nd_set D j tx) ∧ t.1 4 = s.1 4 ∧ t.1 5 = s.1 5 + 1 ∧ kPC s t) ∧ (∀ z, a_jn i tt ≠ .inr (.inr z)) := fun i x2 tt hi hk ett => by
    obtain ⟨v, e1, e2⟩ := p_one_k2 hod1 hod6 ep hk
    have row := (hrow 0 (by omega) (by omega)).2
    rw [e1] at row
    change wR (s.2.1 2) 0 2 (wPs none) (tA []) (v.take 20) at row
    rw [e1] at ett
    change tt = (if x2 = 0 then v ++ (D i).2.2.2.2.2 else (D i).2.2.2.2.2 ++ v) at ett
    have L1 : W.length = 1 := by rw [e1]; rfl
    have lt : tt.length = (D i).2.2.2.2.2.length + v.length := by
      rw [ett]
      split
      · rw [List.length_append, Nat.add_comm]
      · rw [List.length_append]
    have tl := (ok.2 i hi).2.2.2.2.2.2.1
    by_cases q : tt.length ≤ 20
    · have v20 : v.length ≤ 20 := by omega
      have ov0 : ov = false := by rw [e2]; exact decide_eq_false (by omega)
      have s11 : s.1 11 = 0 := hov.1.resolve_right (fun w => by have := hov.2.1 w; rw [ov0] at this; cases this)
      rw [List.take_of_length_le v20] at row
      have J := rm_joined M ok hmk hi v20 row.2.2.1 (fun k hk => by have := row.2.2.2.2.1 k hk; rw [show 128 * 0 + 8 + k = 8 + k by omega] at this; exact this) x2
      have ea : a_jn i tt = .inr (.inl (i, tt)) := if_pos q
      refine ⟨fun v h => (by rw [ea] at h; cases h), fun j tx h => ?_, fun z h => by rw [ea] at h; cases h⟩
      rw [ea] at h
      cases h
      obtain ⟨t, c1, c2, c3, c4, c5⟩ := J.2 s11 (by omega)
      rw [← ett] at c2
      exact ⟨t, c1, c2, c4 4 (by decide), c3, c5 1 (by decide), c5 56 (by decide), c4 55 (by decide)⟩
    · have ea : a_jn i tt = .inl (-2000) := if_neg q
      refine ⟨fun v2 h => ?_, fun j tx h => (by rw [ea] at h; cases h), fun z h => by rw [ea] at h; cases h⟩
      rw [ea] at h
      cases h
      have lv : (v.take 20).length ≤ 20 := by rw [List.length_take]; omega
      have J := rm_joined M ok hmk hi lv row.2.2.1 (fun k hk => by have := row.2.2.2.2.1 k hk; rw [show 128 * 0 + 8 + k = 8 + k by omega] at this; exact this) x2
      by_cases v20 : v.length ≤ 20
      · exact J.1 (Or.inr (by rw [List.length_take]; omega))
      · refine J.1 (Or.inl (fun w => ?_))
        have : ov = true := by rw [e2]; exact decide_eq_true (by omega)
        rcases hov.2.2 this with h | h
        · rw [w] at h; exact absurd h (by decide)
        · omega
  -- where the nodes go in, or not
  have put : (∀ v, (if a_over W ov = true ∨ 40 < n + W.length ∨ 200 < mk + W.length then (.inl (-2000) : iR) else .inr (.inr (sp, pp, W))) = .inl v → ∃ t, g_inserted_230 x1 wh (nI (d pp)) (mp_sl d (a_lf D pp sp)) (mp_sl d (a_rt n D pp sp)) s = some (v, t) ∧ t.2.1 0 = s.2.1 0 ∧ t.1 4 = s.1 4 ∧ t.1 5 = s.1 5 ∧ kPC s t) ∧ (∀ z, (if a_over W ov = true ∨ 40 < n + W.length ∨ 200 < mk + W.length then (.inl (-2000) : iR) else .inr (.inr (sp, pp, W))) ≠ .inr (.inl z)) ∧ (∀ sp2 pp2 W2, (if a_over W ov = true ∨ 40 < n + W.length ∨ 200 < mk + W.length then (.inl (-2000) : iR) else .inr (.inr (sp, pp, W))) = .inr (.inr (sp2, pp2, W2)) → ∃ t d2, g_inserted_230 x1 wh (nI (d pp)) (mp_sl d (a_lf D pp sp)) (mp_sl d (a_rt n D pp sp)) s = some (nI mk, t) ∧ md (t.2.1 0) (n + W2.length) d2 (nd_ins D sp2 mk (some pp2) W2) ∧ t.1 4 = nI (mk + W2.length) ∧ t.1 5 = s.1 5 + 1 ∧ kPC s t) := by
    have spp : pp < sp := by
      rcases hsp.2 with ⟨h, _⟩ | ⟨q, h1, h2, _⟩
      · cases h
      · cases h1; exact h2
    have lab : ∀ i, i < W.length → (W.getD i wn0).2.2.2.1.length = (D pp).2.2.2.1.length + T.length + wRel od W i := fun i hi => by
      have h1 := wI_lab S1 S2 S3 (i + 1) i (by omega) hi
      have h2 := S7 i hi
      rw [S5, labl] at h1
      unfold wRel
      omega
    have ao : a_over W ov = true ↔ ov = true ∨ ∃ i, i < W.length ∧ 16 < (W.getD i wn0).2.2.2.1.length := by
      unfold a_over
      rw [Bool.or_eq_true, List.any_eq_true]
      refine or_congr Iff.rfl ⟨fun ⟨x, h1, h2⟩ => ?_, fun ⟨i, h1, h2⟩ => ⟨W.getD i wn0, getD_mem' h1, decide_eq_true h2⟩⟩
      obtain ⟨i, hi, ei⟩ := List.mem_iff_getElem.mp h1
      refine ⟨i, hi, ?_⟩
      rw [List.getD_eq_getElem?_getD, List.getElem?_eq_getElem hi, Option.getD_some, ei]
      exact of_decide_eq_true h2
    have ref : ∀ t : mT, t.2.1 0 = s.2.1 0 ∧ t.1 4 = s.1 4 ∧ t.1 5 = s.1 5 ∧ kPC s t → ∀ o, o = some ((-2000 : Int32), t) → ∃ t, o = some ((-2000 : Int32), t) ∧ t.2.1 0 = s.2.1 0 ∧ t.1 4 = s.1 4 ∧ t.1 5 = s.1 5 ∧ kPC s t := fun t h o e => ⟨t, e, h⟩
    have rs0 := ref s ⟨rfl, rfl, rfl, rfl, rfl, rfl⟩
    have fr1 : s1.2.1 0 = s.2.1 0 ∧ s1.1 4 = s.1 4 ∧ s1.1 5 = s.1 5 ∧ kPC s s1 := ⟨b3.2.2.1 0 (by decide), b3.1 4 (by decide), b3.1 5 (by decide), b3.2.2.1 1 (by decide), b3.2.2.1 56 (by decide), b3.1 55 (by decide)⟩
    have rs1 := ref s1 fr1
    have hdp := (M.2.2.1 pp hpp).1
    have M1 : md (s1.2.1 0) n d D := by rw [fr1.1]; exact M
    have e230 : s.1 11 = 0 → n + W.length ≤ 40 → mk + W.length ≤ 200 → ∃ B, B ≤ 6 ∧ (∀ i, i < W.length → wRel od W i ≤ B) ∧ (B = 0 ∨ ∃ i, i < W.length ∧ wRel od W i = B) ∧ g_inserted_230 x1 wh (nI (d pp)) (mp_sl d (a_lf D pp sp)) (mp_sl d (a_rt n D pp sp)) s = (if (D pp).2.2.2.1.length + T.length + B ≤ 16 then g_inserted_345 (nI sp) (nI (d pp)) s1 else some ((-2000 : Int32), s1)) := fun h11 hn40 hm200 => by
      obtain ⟨B, c1, c2, c3, c4⟩ := rm_below (st := s1) S1 S7 (by omega) ((b3.1 10 (by decide)).trans h10) (fun i hi => by rw [b3.2.2.1 2 (by decide)]; exact (hrow i hi (by omega)).2.2.1)
      refine ⟨B, c2, c3, c4, ?_⟩
      have f4 : ∀ t : mT, t.2.1 0 = s.2.1 0 → g_f (nI (d pp)) 4 t = some (nI (D pp).2.2.2.1.length, t) := fun t ht => by
        rw [← (M.2.2.2.2.1 pp hpp).2.2.2.2.1, ← ht]
        exact mp_f t (o := 4) hdp (by decide)
      unfold g_inserted_230
      rw [if_pos h11, mp_count, Option.bind_some, M.2.1]
      simp only []
      rw [h10, nI_add, if_neg (show ¬ (40 : Int32) < nI (n + W.length) from nI_nlt (a := 40) hn40 (by decide)), h4, nI_add, if_pos (show nI (mk + W.length) ≤ 200 from nI_le (b := 200) hm200 (by decide)), f4 s rfl, Option.bind_some]
      simp only []
      rw [b2, Option.bind_some, f4 s1 fr1.1, Option.bind_some]
      simp only []
      rw [c1, Option.bind_some, b3.2.1, nI_add, nI_add]
      simp only []
      by_cases q : (D pp).2.2.2.1.length + T.length + B ≤ 16
      · rw [if_pos (show nI _ ≤ 16 from nI_le (b := 16) q (by decide)), if_pos q]
        exact hord s1 fr1.1
      · rw [if_neg (show ¬ nI _ ≤ 16 from nI_ge (a := 16) (by omega) (by omega)), if_neg q]
    by_cases q : a_over W ov = true ∨ 40 < n + W.length ∨ 200 < mk + W.length
    · rw [if_pos q]
      refine ⟨fun v h => ?_, fun z h => (by cases h), fun sp2 pp2 W3 h => by cases h⟩
      cases h
      by_cases h11 : s.1 11 = 0
      · by_cases hn40 : n + W.length ≤ 40
        · by_cases hm : mk + W.length ≤ 200
          · obtain ⟨B, c2, c3, c4, c5⟩ := e230 h11 hn40 hm
            refine rs1 _ ?_
            rw [c5, if_neg]
            have q2 := ao.mp (q.resolve_right (by omega))
            rcases q2 with h | ⟨i, h1, h2⟩
            · rcases hov.2.2 h with k | k
              · rw [h11] at k; exact absurd k (by decide)
              · omega
            · have := lab i h1
              have := c3 i h1
              omega
          · refine rs0 _ ?_
            unfold g_inserted_230 g_inserted_266
            rw [if_pos h11, mp_count, Option.bind_some, M.2.1]
            simp only []
            rw [h10, nI_add, if_neg (show ¬ (40 : Int32) < nI (n + W.length) from nI_nlt (a := 40) hn40 (by decide)), h4, nI_add, if_neg (show ¬ nI (mk + W.length) ≤ 200 from nI_ge (a := 200) (by omega) (by omega))]
        · refine rs0 _ ?_
          unfold g_inserted_230 g_inserted_266
          rw [if_pos h11, mp_count, Option.bind_some, M.2.1]
          simp only []
          rw [h10, nI_add, if_pos (show (40 : Int32) < nI (n + W.length) from nI_lt (a := 40) (by omega) (by have := M.1; omega))]
      · refine rs0 _ ?_
        unfold g_inserted_230 g_inserted_266
        rw [if_neg h11]
    · have q1 : ¬ (ov = true) := fun w => q (Or.inl (ao.mpr (Or.inl w)))
      have ov0 : ov = false := by simpa using q1
      have q2 : ∀ i, i < W.length → (W.getD i wn0).2.2.2.1.length ≤ 16 := fun i hi => by
        rcases Nat.lt_or_ge 16 (W.getD i wn0).2.2.2.1.length with h | h
        · exact absurd (Or.inl (ao.mpr (Or.inr ⟨i, hi, h⟩))) q
        · exact h
      have q3 : n + W.length ≤ 40 := by omega
      have q4 : mk + W.length ≤ 200 := by omega
      have h11 : s.1 11 = 0 := hov.1.resolve_right (fun w => q1 (hov.2.1 w))
      rw [if_neg q]
      refine ⟨fun v h => (by cases h), fun z h => (by cases h), fun sp2 pp2 W3 h => ?_⟩
      cases h
      obtain ⟨B, c2, c3, c4, c5⟩ := e230 h11 q3 q4
      have c6 : (D pp).2.2.2.1.length + T.length + B ≤ 16 := by
        rcases c4 with h | ⟨i, h1, h2⟩
        · have h3 := lab 0 (by omega)
          have h4 := q2 0 (by omega)
          omega
        · have h3 := lab i h1
          have h4 := q2 i h1
          omega
      rw [if_pos c6] at c5
      subst ov0
      have iw : iW s1 n D (some pp) W := iW_of (T := T) (fun i h1 h2 => by rw [b3.2.2.1 2 (by decide)]; exact hrow i h1 h2) S1 (by omega) S2 S4 (by rw [S5]; exact elb) b3.2.1 b3.2.2.2.1 q2
      obtain ⟨s7, d2, g1, g2, g3, g4, g5, g6⟩ := rm_install (st := s1) (x1 := nI (d pp)) (sp := sp) (mk := mk) (po := some pp) (W := W) M1 ok w1 ((b3.1 10 (by decide)).trans h10) (fr1.2.1.trans h4) q4 q3 hsp.1 (Or.inr ⟨pp, rfl, spp, rfl⟩) iw
      have hd2 := (g2.2.2.1 sp (by have := hsp.1; omega)).1
      have rw2 := (g2.2.2.2.2.1 sp (by have := hsp.1; omega)).1
      have en : (nd_ins D sp mk (some pp) W sp).1 = mk := by
        unfold nd_ins
        rw [if_neg (by omega), if_pos (by omega), Nat.sub_self]
        rfl
      rw [en] at rw2
      refine ⟨mm_F s7 5 (s7.1 5 + 1), d2, ?_, g2, (fF_n (by decide)).trans g3, fF_s.trans (by rw [g4 5 (by decide), fr1.2.2.1]), (g5 1 (by decide) (by decide)).trans fr1.2.2.2.1, (g5 56 (by decide) (by decide)).trans fr1.2.2.2.2.1, (fF_n (by decide)).trans ((g4 55 (by decide)).trans fr1.2.2.2.2.2)⟩
      rw [c5]
      unfold g_inserted_345
      rw [g1, Option.bind_some]
      simp only [mm_lt]
      have ld0 : ∀ (K : Int32 → Option (Int32 × mT)), mm_ld ((mm_F s7 5 (s7.1 5 + 1)).2.1 3) 40 0 K = K (s7.2.1 3 0) := fun K => mp_ld (i := 0) (by decide) (by decide)
      rw [ld0, g6, show g_f (nI (d2 sp)) 0 (mm_F s7 5 (s7.1 5 + 1)) = some (s7.2.1 0 (128 * d2 sp + 0), mm_F s7 5 (s7.1 5 + 1)) from mp_f _ (o := 0) hd2 (by decide), Option.bind_some, Nat.add_zero, rw2, ← nI_1, Int32.add_sub_cancel]
  unfold a_ins3
  unfold g_inserted_160
  rw [ld1, k0]
  have e196 : ((W.getD 0 wn0).1 = 2 → a_tx D (a_rt n D pp sp) = true → g_inserted_196 x1 wh (nI (d pp)) (mp_sl d (a_lf D pp sp)) (mp_sl d (a_rt n D pp sp)) s = g_joined (nI (d ((a_rt n D pp sp).getD 0))) 0 s) ∧ (¬ ((W.getD 0 wn0).1 = 2 ∧ a_tx D (a_rt n D pp sp) = true) → g_inserted_196 x1 wh (nI (d pp)) (mp_sl d (a_lf D pp sp)) (mp_sl d (a_rt n D pp sp)) s = g_inserted_230 x1 wh (nI (d pp)) (mp_sl d (a_lf D pp sp)) (mp_sl d (a_rt n D pp sp)) s) := by
    unfold g_inserted_196
    rw [ld1, k0]
    by_cases q : (W.getD 0 wn0).1 = 2
    · rw [if_pos (k2i.mpr q)]
      cases e : a_rt n D pp sp with
      | none => exact ⟨fun _ w => (by cases w), fun _ => if_pos (show (-1 : Int32) < 0 by decide)⟩
      | some i =>
        have hi := (rts i e).1
        have hdi := (M.2.2.1 i hi).1
        rw [if_neg (show ¬ mp_sl d (some i) < 0 from nI_pos (by omega)), show g_f (mp_sl d (some i)) 1 s = _ from hf1 i hi, Option.bind_some]
        refine ⟨fun _ w => ?_, fun w => ?_⟩
        · rw [if_pos ((kd2 i hi).mpr (of_decide_eq_true w)), bind_pair]
          rfl
        · rw [if_neg (fun k => w ⟨q, decide_eq_true ((kd2 i hi).mp k)⟩)]
    · rw [if_neg (fun k => q (k2i.mp k))]
      exact ⟨fun w => absurd w q, fun _ => rfl⟩
  have e230 : ¬ ((W.getD 0 wn0).1 = 2 ∧ a_tx D (a_lf D pp sp) = true) → (if nI (W.getD 0 wn0).1 = 2 then (if mp_sl d (a_lf D pp sp) < 0 then (g_inserted_196 x1 wh (nI (d pp)) (mp_sl d (a_lf D pp sp)) (mp_sl d (a_rt n D pp sp)) s) else ((g_f (mp_sl d (a_lf D pp sp)) 1 s).bind (fun q19 => (if q19.1 = 2 then ((g_joined (mp_sl d (a_lf D pp sp)) 1 q19.2).bind (fun q20 => (some (q20.1, q20.2)))) else (g_inserted_196 x1 wh (nI (d pp)) (mp_sl d (a_lf D pp sp)) (mp_sl d (a_rt n D pp sp)) q19.2))))) else (g_inserted_196 x1 wh (nI (d pp)) (mp_sl d (a_lf D pp sp)) (mp_sl d (a_rt n D pp sp)) s)) = g_inserted_196 x1 wh (nI (d pp)) (mp_sl d (a_lf D pp sp)) (mp_sl d (a_rt n D pp sp)) s := fun w => by
    by_cases q : (W.getD 0 wn0).1 = 2
    · rw [if_pos (k2i.mpr q)]
      cases e : a_lf D pp sp with
      | none => exact if_pos (show (-1 : Int32) < 0 by decide)
      | some i =>
        have hi := (lfs i e).1
        have hdi := (M.2.2.1 i hi).1
        rw [if_neg (show ¬ mp_sl d (some i) < 0 from nI_pos (by omega)), show g_f (mp_sl d (some i)) 1 s = _ from hf1 i hi, Option.bind_some, if_neg (fun k => w ⟨q, by rw [e]; exact decide_eq_true ((kd2 i hi).mp k)⟩)]
    · rw [if_neg (fun k => q (k2i.mp k))]
  by_cases q1 : (W.getD 0 wn0).1 = 2 ∧ a_tx D (a_lf D pp sp) = true
  · rw [if_pos q1, if_pos (k2i.mpr q1.1)]
    cases e : a_lf D pp sp with
    | none =>
      rw [e] at q1
      exact absurd (show false = true from q1.2) (by decide)
    | some i =>
      rw [e] at q1
      have hi := (lfs i e).1
      have hdi := (M.2.2.1 i hi).1
      have J := jn i 1 ((D i).2.2.2.2.2 ++ (W.getD 0 wn0).2.2.2.2.2) hi q1.1 (by rw [if_neg (by decide)])
      rw [if_neg (show ¬ mp_sl d (some i) < 0 from nI_pos (by omega)), show g_f (mp_sl d (some i)) 1 s = _ from hf1 i hi, Option.bind_some, if_pos ((kd2 i hi).mpr (of_decide_eq_true q1.2)), bind_pair]
      exact ⟨fun v h => ⟨s, J.1 v h, rfl, rfl, rfl, rfl, rfl, rfl⟩, J.2.1, fun sp2 pp2 W3 h => absurd h (J.2.2 _)⟩
  · rw [if_neg q1, e230 q1]
    by_cases q2 : (W.getD 0 wn0).1 = 2 ∧ a_tx D (a_rt n D pp sp) = true
    · rw [if_pos q2, e196.1 q2.1 q2.2]
      have hi : (a_rt n D pp sp).getD 0 < n := by
        cases e : a_rt n D pp sp with
        | none => rw [e] at q2; exact absurd (show false = true from q2.2) (by decide)
        | some i => exact (rts i e).1
      have J := jn ((a_rt n D pp sp).getD 0) 0 ((W.getD 0 wn0).2.2.2.2.2 ++ (D ((a_rt n D pp sp).getD 0)).2.2.2.2.2) hi q2.1 (by rw [if_pos rfl])
      exact ⟨fun v h => ⟨s, J.1 v h, rfl, rfl, rfl, rfl, rfl, rfl⟩, J.2.1, fun sp2 pp2 W3 h => absurd h (J.2.2 _)⟩
    · rw [if_neg q2, e196.2 q2]
      exact ⟨put.1, fun j tx h => absurd h (put.2.1 _), put.2.2⟩
end QO5
-- insert of the reference: the whole of it
theorem p_one_le {xs : List Nat} {dep : Nat} {lab : List Int32} {e : Nat} (h1 : 1 ≤ dep) (h6 : dep ≤ 6) (h : p_one xs dep lab = .inl e) : e ≤ xs.length := by
  unfold p_one at h
  by_cases h0 : xs.length = 0
  · rw [if_pos h0] at h
    cases h
    omega
  · rw [if_neg h0] at h
    have L := p_piece_le (p_F_le (xs := xs) 8) none dep lab 0 [] false (by omega) ⟨h1, h6, by omega⟩
    unfold p_fin at h
    cases ep : p_piece (p_F xs 8) xs none dep lab 0 [] false with
    | inl e1 =>
      rw [ep] at h
      cases h
      exact (L.1 _ ep).2
    | inr r =>
      obtain ⟨q, W, ov⟩ := r
      rw [ep] at h
      simp only [] at h
      have := (L.2 q W ov ep).2.1
      split at h
      · cases h
      · cases h
        exact this
section QO6
variable {st : mT} {mk n m : Nat} {D D2 : Nat → nd} {xs : List Nat} {rs : List Int32} {ch : Int32}
theorem wh_in {wh : Int32} (h : ¬ (wh < 0 ∨ 3 < wh)) : wh = 0 ∨ wh = 1 ∨ wh = 2 ∨ wh = 3 := by
  obtain ⟨j, h1, h2⟩ := nI_of2 (x := wh) (M := 3) (n := 3) rfl (fun w => h (Or.inl w)) (by
    rcases Int32.le_total wh 3 with w | w
    · exact w
    · rcases Int32.le_iff_lt_or_eq.mp w with w | w
      · exact absurd (Or.inr w) h
      · rw [← w]; exact Int32.le_refl _)
  match j, h1 with
  | 0, _ => exact Or.inl h2
  | 1, _ => exact Or.inr (Or.inl h2)
  | 2, _ => exact Or.inr (Or.inr (Or.inl h2))
  | 3, _ => exact Or.inr (Or.inr (Or.inr h2))
theorem pm_insert (I : mPIC st mk n D m D2 xs rs ch) (ok : aOK mk n D m D2 xs rs) (d5 : nd_d5 n D) (lb : nd_lb n D) (x wh : Int32) : (∀ v, a_insert mk n D xs x wh = .inl v → ∃ st2, g_insert x wh st = some (v, st2) ∧ mPIC st2 mk n D m D2 [] rs ch) ∧ (∀ j tx, a_insert mk n D xs x wh = .inr (.inl (j, tx)) → ∃ st2, g_insert x wh st = some (nI (D j).1, st2) ∧ mPIC st2 mk n (nd_set D j tx) m D2 [] rs (ch + 1)) ∧ (∀ sp pp W, a_insert mk n D xs x wh = .inr (.inr (sp, pp, W)) → ∃ st2, g_insert x wh st = some (nI mk, st2) ∧ mPIC st2 (mk + W.length) (n + W.length) (nd_ins D sp mk (some pp) W) m D2 [] rs (ch + 1)) := by
  obtain ⟨b, hx0⟩ := I.buf ok
  have I0 := I
  obtain ⟨⟨d, M⟩, Mk, r1, r2, r3, r4, r5, r6⟩ := I
  have hD := md_D M
  have okn := ok.1
  have pre : nd_pre n D := ok.2.2.2.2.2.2.2.2.1
  have hmk : mk ≤ 200 := ok.2.2.1
  have hPA := md_P M okn
  -- from an answer of inserted
  have fin : ∀ k v t, a_at n D x = some k → g_inserted (nI (d k)) wh st = some (v, t) → g_insert x wh st = some (v, mm_F t 7 0) := fun k v t e e2 => by
    have hk := (a_at_some e).1
    have hdk := (M.2.2.1 k hk).1
    unfold g_insert g_insert_22
    rw [mp_bd (mp_pl_some hD (by rw [md_at M]; exact e)), if_pos (show (0 : Int32) ≤ nI (d k) from nI_le (a := 0) (Nat.zero_le _) (by omega)), e2, Option.bind_some]
    rfl
  have pic : ∀ {t : mT} {mk2 n2 : Nat} {D3 : Nat → nd} {ch2 : Int32}, (∃ d2, md (t.2.1 0) n2 d2 D3) → t.1 4 = nI mk2 → t.1 5 = ch2 → kPC st t → mPIC (mm_F t 7 0) mk2 n2 D3 m D2 [] rs ch2 := fun {t mk2 n2 D3 ch2} h0 h4 h5 hk => by
    refine ⟨h0, ?_, (fF_n (by decide)).trans h4, (fF_n (by decide)).trans h5, fF_s, fun j hj => absurd hj (Nat.not_lt_zero _), (fF_n (by decide)).trans (hk.2.2.trans r5), fun j hj => ?_⟩
    · show ∃ d, md (t.2.1 1) m d D2
      rw [hk.1]
      exact Mk
    · show t.2.1 56 j = _
      rw [hk.2.1]
      exact r6 j hj
  have kref : kPC st st := ⟨rfl, rfl, rfl⟩
  unfold a_insert
  cases ea : a_at n D x with
  | none =>
    refine ⟨fun v h => ?_, fun j tx h => (by cases h), fun sp pp W h => by cases h⟩
    cases h
    refine ⟨mm_F st 7 0, ?_, pic ⟨d, M⟩ r1 r2 kref⟩
    unfold g_insert g_insert_22
    rw [mp_bd (mp_pl_none hD (by rw [md_at M]; exact ea)), if_neg (show ¬ (0 : Int32) ≤ -1 by decide)]
    rfl
  | some k =>
    have hk := (a_at_some ea).1
    have hdk := (M.2.2.1 k hk).1
    simp only []
    have refuse : g_inserted (nI (d k)) wh st = some (-2000, st) → (∀ v, (.inl (-2000) : iR) = .inl v → ∃ st2, g_insert x wh st = some (v, st2) ∧ mPIC st2 mk n D m D2 [] rs ch) ∧ (∀ j tx, (.inl (-2000) : iR) = .inr (.inl (j, tx)) → ∃ st2, g_insert x wh st = some (nI (D j).1, st2) ∧ mPIC st2 mk n (nd_set D j tx) m D2 [] rs (ch + 1)) ∧ (∀ sp pp W, (.inl (-2000) : iR) = .inr (.inr (sp, pp, W)) → ∃ st2, g_insert x wh st = some (nI mk, st2) ∧ mPIC st2 (mk + W.length) (n + W.length) (nd_ins D sp mk (some pp) W) m D2 [] rs (ch + 1)) := fun e => by
      refine ⟨fun v h => ?_, fun j tx h => (by cases h), fun sp pp W h => by cases h⟩
      cases h
      exact ⟨_, fin k (-2000) st ea e, pic ⟨d, M⟩ r1 r2 kref⟩
    have hf1 : g_f (nI (d k)) 1 st = some (nI (D k).2.1, st) := by rw [← (M.2.2.2.2.1 k hk).2.1]; exact mp_f st (o := 1) hdk (by decide)
    have hf2 : g_f (nI (d k)) 2 st = some (md_ps d (D k), st) := by rw [← (M.2.2.2.2.1 k hk).2.2.1]; exact mp_f st (o := 2) hdk (by decide)
    have k1i : nI (D k).2.1 = 1 ↔ (D k).2.1 = 1 := nI_eq (b := 1) (by have := (okn.2 k hk).2.1; omega) (by decide)
    by_cases qw : wh < 0 ∨ 3 < wh
    · rw [if_pos qw]
      refine refuse ?_
      unfold g_inserted g_inserted_38
      by_cases q1 : wh < 0
      · rw [if_pos q1]
      · rw [if_neg q1, if_pos (qw.resolve_left q1)]
    rw [if_neg qw]
    have h57 : ∀ pp, a_pp D k wh = some pp → (D pp).2.1 = 1 → g_inserted (nI (d k)) wh st = g_inserted_57 (nI (d k)) wh (nI (d pp)) st := fun pp hpp hk1 => by
      unfold a_pp at hpp
      unfold g_inserted
      rw [if_neg (fun w => qw (Or.inl w)), if_neg (fun w => qw (Or.inr w))]
      rcases wh_in qw with w | w | w | w
      · subst w
        rw [if_pos (Or.inl rfl)] at hpp
        have hdp := (M.2.2.1 pp (by have := (okn.2 k hk).2.2.1 pp hpp; omega)).1
        have eps : md_ps d (D k) = nI (d pp) := by unfold md_ps; rw [hpp]
        rw [if_neg (by decide), hf2, Option.bind_some, eps, if_neg (show ¬ nI (d pp) < 0 from nI_pos (by omega))]
        unfold g_inserted_23 g_inserted_42
        rw [if_pos (by decide), if_neg (by decide), hf2, Option.bind_some, eps]
      · subst w
        rw [if_pos (Or.inr rfl)] at hpp
        have hdp := (M.2.2.1 pp (by have := (okn.2 k hk).2.2.1 pp hpp; omega)).1
        have eps : md_ps d (D k) = nI (d pp) := by unfold md_ps; rw [hpp]
        rw [if_neg (by decide), hf2, Option.bind_some, eps, if_neg (show ¬ nI (d pp) < 0 from nI_pos (by omega))]
        unfold g_inserted_23 g_inserted_42
        rw [if_pos (by decide), if_neg (by decide), hf2, Option.bind_some, eps]
      · subst w
        rw [if_neg (by decide)] at hpp
        cases hpp
        rw [if_pos (by decide)]
        unfold g_inserted_23 g_inserted_42
        rw [if_neg (by decide), hf1, Option.bind_some, if_pos (k1i.mpr hk1), if_pos (by decide)]
      · subst w
        rw [if_neg (by decide)] at hpp
        cases hpp
        rw [if_pos (by decide)]
        unfold g_inserted_23 g_inserted_42
        rw [if_neg (by decide), hf1, Option.bind_some, if_pos (k1i.mpr hk1), if_pos (by decide)]
    cases epp : a_pp D k wh with
    | none =>
      refine refuse ?_
      unfold a_pp at epp
      by_cases w : wh = 0 ∨ wh = 1
      · rw [if_pos w] at epp
        have eps : md_ps d (D k) = -1 := by unfold md_ps; rw [epp]
        unfold g_inserted g_inserted_38
        rw [if_neg (fun w => qw (Or.inl w)), if_neg (fun w => qw (Or.inr w)), if_neg (by rcases w with w | w <;> (rw [w]; decide)), hf2, Option.bind_some, eps, if_pos (show ((-1 : Int32), st).1 < 0 from (by decide : (-1 : Int32) < 0))]
      · rw [if_neg w] at epp
        cases epp
    | some pp =>
      simp only []
      by_cases hk1 : (D pp).2.1 = 1
      · rw [if_pos hk1]
        have hpp : pp < n := by
          unfold a_pp at epp
          split at epp
          · have := (okn.2 k hk).2.2.1 pp epp; omega
          · cases epp; exact hk
        have hdp := (M.2.2.1 pp hpp).1
        have spot := nd_spot_of okn pre hk epp hk1
        have dd := d5 pp hpp hk1
        unfold a_ins2
        obtain ⟨s, p1, p2, p3⟩ := rm_one (st0 := st) b hx0 (dep := mp_dep (fun k => (D k).2.2.1) pp + 1) (by omega) (by omega) (a_nlab n D pp (a_sp n D k wh))
        have e57 : g_inserted (nI (d k)) wh st = (if (s.1 9) < 0 then (if wh = 0 then ((g_sibling (nI (d k)) (-1) s).bind (fun q23 => (g_inserted_121 (nI (d k)) wh (nI (d pp)) q23.1 q23.2))) else (if wh = 1 then (g_inserted_121 (nI (d k)) wh (nI (d pp)) (nI (d k)) s) else (if wh = 2 then (g_inserted_121 (nI (d k)) wh (nI (d pp)) (-1) s) else ((g_child (nI (d k)) (-1) s).bind (fun q3 => (g_inserted_121 (nI (d k)) wh (nI (d pp)) q3.1 q3.2)))))) else (some (((-1) - (s.1 9)), s))) := by
          rw [h57 pp epp hk1]
          unfold g_inserted_57
          rw [mp_bd (mp_depth hD hPA hpp)]
          simp only []
          rw [nI_1, p1, Option.bind_some]
        have fa : ∀ a, ¬ marr a → s.2.1 a = st.2.1 a := p2.2.1
        have ff : ∀ k, ¬ mfld k → s.1 k = st.1 k := p2.1
        have s0 : s.2.1 0 = st.2.1 0 := fa 0 (by unfold marr; omega)
        have Ms : md (s.2.1 0) n d D := by rw [s0]; exact M
        have kS : kPC st s := ⟨fa 1 (by unfold marr; omega), fa 56 (by unfold marr; omega), ff 55 (by unfold mfld; omega)⟩
        have f4 : s.1 4 = nI mk := (ff 4 (by unfold mfld; omega)).trans r1
        have f5 : s.1 5 = ch := (ff 5 (by unfold mfld; omega)).trans r2
        cases ep : p_one xs (mp_dep (fun k => (D k).2.2.1) pp + 1) (a_nlab n D pp (a_sp n D k wh)) with
        | inl e =>
          rw [ep] at p3
          simp only [] at p3
          have he := p_one_le (by omega) (by omega) ep
          have hl := b.2.2.1
          refine ⟨fun v h => ?_, fun j tx h => (by cases h), fun sp pp W h => by cases h⟩
          have hv : v = -1 - nI e := (Sum.inl.inj h).symm
          rw [hv]
          refine ⟨_, fin k (-1 - nI e) s ea ?_, pic ⟨d, Ms⟩ f4 f5 kS⟩
          rw [e57, if_neg (by rw [p3]; exact nI_nlt (b := 0) (Nat.zero_le _) (by omega)), p3]
        | inr r =>
          obtain ⟨W, ov⟩ := r
          rw [ep] at p3
          obtain ⟨p3, p4, p5, p6⟩ := p3
          simp only []
          have hord : ∀ t : mT, t.2.1 0 = s.2.1 0 → ((g_order (nI (d k)) t).bind (fun q11 => (if wh = 0 then (g_inserted_345 q11.1 (nI (d pp)) q11.2) else (if wh = 2 then (g_inserted_345 (q11.1 + 1) (nI (d pp)) q11.2) else ((g_end q11.1 q11.2).bind (fun q12 => (g_inserted_345 q12.1 (nI (d pp)) q12.2))))))) = g_inserted_345 (nI (a_sp n D k wh)) (nI (d pp)) t := fun t ht => by
            have Mt : md (t.2.1 0) n d D := by rw [ht]; exact Ms
            rw [mp_bd (mp_order (md_D Mt) hk Mt.2.2.2.1)]
            unfold a_sp
            by_cases w0 : wh = 0
            · rw [if_pos w0, if_pos w0]
            · rw [if_neg w0, if_neg w0]
              by_cases w2 : wh = 2
              · rw [if_pos w2, if_pos w2, nI_1]
              · rw [if_neg w2, if_neg w2, mp_bd (mp_gend (md_D Mt) (md_P Mt okn) hk)]
                rfl
          have R := rm_ins3 Ms okn hmk lb f4 (xs := xs) b.2.2.1 b.2.2.2 hpp (by omega) (by omega) spot ep p4 p5 p6 (x1 := nI (d k)) (wh := wh) hord
          have SB := rm_sibs Ms okn pre hk
          obtain ⟨L1, L2, L3, L4, L5⟩ := a_lr okn pre hk
          have e160 : g_inserted (nI (d k)) wh st = g_inserted_160 (nI (d k)) wh (nI (d pp)) (mp_sl d (a_lf D pp (a_sp n D k wh))) (mp_sl d (a_rt n D pp (a_sp n D k wh))) s := by
            rw [e57, if_pos (by rw [p3]; decide)]
            unfold a_pp at epp
            rcases wh_in qw with w | w | w | w
            · subst w
              rw [if_pos (Or.inl rfl)] at epp
              have esp : a_sp n D k 0 = k := if_pos rfl
              rw [if_pos rfl, esp, mp_bd ((SB.1 pp epp).1), (L1 pp epp).1]
              unfold g_inserted_121
              rw [if_pos rfl]
              rfl
            · subst w
              rw [if_pos (Or.inr rfl)] at epp
              have esp : a_sp n D k 1 = a_end n D k := by unfold a_sp; rw [if_neg (by decide), if_neg (by decide)]
              rw [if_neg (by decide), if_pos rfl, esp, (L1 pp epp).2.1]
              unfold g_inserted_121
              rw [if_neg (by decide), if_pos rfl, mp_bd ((SB.1 pp epp).2)]
              rfl
            · subst w
              rw [if_neg (by decide)] at epp
              cases epp
              have esp : a_sp n D k 2 = k + 1 := by unfold a_sp; rw [if_neg (by decide), if_pos rfl]
              rw [if_neg (by decide), if_neg (by decide), if_pos rfl, esp, L2]
              unfold g_inserted_121
              rw [if_neg (by decide), if_neg (by decide), if_pos rfl, mp_bd SB.2.1]
              rfl
            · subst w
              rw [if_neg (by decide)] at epp
              cases epp
              have esp : a_sp n D k 3 = a_end n D k := by unfold a_sp; rw [if_neg (by decide), if_neg (by decide)]
              rw [if_neg (by decide), if_neg (by decide), if_neg (by decide), esp, L5, mp_bd SB.2.2]
              unfold g_inserted_121
              rw [if_neg (by decide), if_neg (by decide), if_neg (by decide)]
              rfl
          rw [← e160] at R
          have tk : ∀ {t : mT}, kPC s t → kPC st t := fun {t} h => ⟨h.1.trans kS.1, h.2.1.trans kS.2.1, h.2.2.trans kS.2.2⟩
          refine ⟨fun v h => ?_, fun j tx h => ?_, fun sp2 pp2 W2 h => ?_⟩
          · obtain ⟨t, c1, c2, c3, c4, c5⟩ := R.1 v h
            exact ⟨_, fin k v t ea c1, pic ⟨d, by rw [c2]; exact Ms⟩ (c3.trans f4) (c4.trans f5) (tk c5)⟩
          · obtain ⟨t, c1, c2, c3, c4, c5⟩ := R.2.1 j tx h
            exact ⟨_, fin k _ t ea c1, pic ⟨d, c2⟩ (c3.trans f4) (c4.trans (by rw [f5])) (tk c5)⟩
          · obtain ⟨t, d2, c1, c2, c3, c4, c5⟩ := R.2.2 sp2 pp2 W2 h
            exact ⟨_, fin k _ t ea c1, pic ⟨d2, c2⟩ c3 (c4.trans (by rw [f5])) (tk c5)⟩
      · rw [if_neg hk1]
        refine refuse ?_
        unfold a_pp at epp
        by_cases w : wh = 0 ∨ wh = 1
        · rw [if_pos w] at epp
          exact absurd (pre k hk pp epp).1 hk1
        · rw [if_neg w] at epp
          cases epp
          unfold g_inserted g_inserted_38
          have w23 : wh = 2 ∨ wh = 3 := by
            rcases wh_in qw with h | h | h | h
            · exact absurd (Or.inl h) w
            · exact absurd (Or.inr h) w
            · exact Or.inl h
            · exact Or.inr h
          rw [if_neg (fun w => qw (Or.inl w)), if_neg (fun w => qw (Or.inr w)), if_pos (by rcases w23 with h | h <;> (rw [h]; decide))]
          unfold g_inserted_23 g_inserted_38
          rw [if_neg (by rcases w23 with h | h <;> (rw [h]; decide)), hf1, Option.bind_some, if_neg (fun w => hk1 (k1i.mp w))]
end QO6
