-- the reference reads: tags
def p_st (xs : List Nat) (p : Nat) (ov : Bool) : Nat ⊕ (Nat × List (List Nat × List Nat) × Bool × Bool) := match p_atts xs 130 (p + 1 + a_let xs (p + 1)) [] ov with
  | .inl e => .inl e
  | .inr (q, att, ov1) => if xs.getD q 0 = 47 then (if xs.getD (q + 1) 0 = 62 then .inr (q + 2, att, ov1 || decide (3 < att.length), true) else .inl (q + 1)) else if xs.getD q 0 ≠ 62 then .inl q else .inr (q + 1, att, ov1 || decide (3 < att.length), false)
theorem p_elem_st {PC : Nat → Nat → List Int32 → Nat → List wn → Bool → pR} {xs : List Nat} {par : Option Nat} {dep : Nat} {lab : List Int32} {p : Nat} {W : List wn} {ov : Bool} : p_elem PC xs par dep lab p W ov = match p_st xs p ov with
  | .inl e => .inl e
  | .inr (q, att, ov1, cl) => if cl = true then .inr (q, W ++ [(1, par, dep, lab, att, (xs.drop (p + 1)).take (a_let xs (p + 1)))], ov1) else match PC W.length (dep + 1) lab q (W ++ [(1, par, dep, lab, att, (xs.drop (p + 1)).take (a_let xs (p + 1)))]) ov1 with
    | .inl e => .inl e
    | .inr (q2, W2, ov3) => match p_end xs ((xs.drop (p + 1)).take (a_let xs (p + 1))) (q2 + 2) with
      | .inl e => .inl e
      | .inr q3 => .inr (q3, W2, ov3) := by
  unfold p_elem p_st
  cases e : p_atts xs 130 (p + 1 + a_let xs (p + 1)) [] ov with
  | inl e => rfl
  | inr r =>
    obtain ⟨q, att, ov1⟩ := r
    simp only []
    by_cases a1 : xs.getD q 0 = 47
    · rw [if_pos a1, if_pos a1]
      by_cases a2 : xs.getD (q + 1) 0 = 62
      · rw [if_pos a2, if_pos a2]
        rfl
      · rw [if_neg a2, if_neg a2]
    · rw [if_neg a1, if_neg a1]
      by_cases a2 : xs.getD q 0 ≠ 62
      · rw [if_pos a2, if_pos a2]
      · rw [if_neg a2, if_neg a2]
        simp only [Bool.false_eq_true, if_false]
        rfl
section QM8
variable {st0 st : mT} {xs : List Nat} {base : Nat} {W : List wn} {S : List (Nat × Nat × Nat)} {par : Option Nat} {dep : Nat} {lab : List Int32} {tx : List Nat}
theorem rm_128e {x1 x2 x3 : Int32} (h : 0 ≤ st.1 9) : g_startTag_128 x1 x2 x3 st = some st := by
  unfold g_startTag_128
  rw [if_neg (by simpa using h)]
theorem rm_atts (b : md_buf st0 xs) (hx : ∀ c ∈ xs, c ≠ 0) (hW : W.length ≤ 200) {x2 : Int32} : ∀ (f fu p : Nat) (att : List (List Nat × List Nat)) (ov : Bool) (st : mT), p ≤ xs.length → xs.length < p + f → xs.length + 1 < p + fu → 5 * att.length ≤ p → nm6 att → nmR st xs att → mR st0 base st (W ++ [(1, par, dep, lab, att, tx)]) (ov || decide (3 < att.length)) S → (∀ e, p_atts xs f p att ov = .inl e → mq (g_startTag_94 fu (nI W.length) x2 (nI p) (nI att.length) st) (fun s => mFr st0 s ∧ s.1 9 = nI e)) ∧ ∀ q att1 ov1, p_atts xs f p att ov = .inr (q, att1, ov1) → ∃ s, g_startTag_94 fu (nI W.length) x2 (nI p) (nI att.length) st = g_startTag_128 (nI W.length) x2 (nI q) s ∧ mR st0 base s (W ++ [(1, par, dep, lab, att1, tx)]) (ov1 || decide (3 < att1.length)) S ∧ s.1 8 = st.1 8 ∧ s.1 12 = st.1 12 := by
  have hl := b.2.2.1
  intro f
  induction f with
  | zero => intro fu p att ov st h1 h2; omega
  | succ f ih =>
    intro fu p att ov st h1 h2 h3 h4 h6 hn R
    obtain ⟨fu, rfl⟩ : ∃ f, fu = f + 1 := ⟨fu - 1, by omega⟩
    have bs := R.buf b
    have h9 : st.1 9 = -1 := R.2.1
    have lc := getD_lt bs.2.2.2 p
    have c32 : nI (xs.getD p 0) = 32 ↔ xs.getD p 0 = 32 := nI_eq (b := 32) (by omega) (by decide)
    unfold g_startTag_94 p_atts
    rw [if_neg (show ¬ (0 : Int32) ≤ st.1 9 by rw [h9]; decide), mp_look bs (by omega), Option.bind_some]
    simp only []
    by_cases q1 : xs.getD p 0 = 32
    · have hp := getD_pos q1 (by decide)
      rw [if_pos (c32.mpr q1), if_pos q1, nI_1]
      have A := rm_attr b hx hW h6 (by omega) (p := p + 1) (by omega) hn R
      have L := p_att_le (xs := xs) (p := p + 1) (as := att) (by omega)
      cases e : p_att xs (p + 1) att with
      | inl e1 =>
        rw [e] at A
        obtain ⟨a, a1, a2, a3⟩ := A
        have le := L.1 e1 e
        refine ⟨fun e2 h => ?_, fun q att1 ov1 h => by cases h⟩
        cases h
        rw [a1, Option.bind_some]
        obtain ⟨fu, rfl⟩ : ∃ f, fu = f + 1 := ⟨fu - 1, by omega⟩
        have h0 : (0 : Int32) ≤ a.2.1 9 := by rw [a3]; exact nI_le (Nat.zero_le _) (by omega)
        unfold g_startTag_94
        rw [if_pos h0, rm_128e h0]
        exact mq_some ⟨a2, a3⟩
      | inr r =>
        obtain ⟨q, nv⟩ := r
        rw [e] at A
        obtain ⟨⟨x, s⟩, a1, a2, a3, a4, a5, a6, a7⟩ := A
        have le := L.2 q nv e
        simp only [] at a2 a3 a4 a5 a6 a7
        simp only []
        rw [a1, Option.bind_some]
        simp only []
        rw [a2, nI_1, ← len_snoc (t := att) (c := nv)]
        have I := ih fu q (att ++ [nv]) (ov || decide (20 < nv.2.length)) s le.2.1 (by omega) (by omega) (by rw [len_snoc]; omega) a7 a6 a3
        refine ⟨I.1, fun q1 att1 ov1 h => ?_⟩
        obtain ⟨s1, b1, b2, b3, b4⟩ := I.2 q1 att1 ov1 h
        exact ⟨s1, b1, b2, b3.trans a4, b4.trans a5⟩
    · rw [if_neg (fun w => q1 (c32.mp w)), if_neg q1]
      refine ⟨fun e h => (by cases h), fun q att1 ov1 h => ?_⟩
      cases h
      exact ⟨st, rfl, R, rfl, rfl⟩
theorem rm_19 (b : md_buf st0 xs) {s : mT} {x p n : Nat} (m : mFr st0 s) (h8 : s.1 8 = nI p) (hx : x < 40) (hn : n ≤ 6) (hp : p + 1 + n ≤ xs.length) : ∀ (r fu k : Nat) (g : Nat → Int32), k + r = n → r < fu → ∃ g2, g_startTag_19 fu (nI x) (nI n) (nI k) (mb s g) = g_startTag_63 (nI x) (nI n) (mb s g2) ∧ (∀ j, k ≤ j → j < n → g2 (128 * x + 8 + j) = nI (xs.getD (p + 1 + j) 0)) ∧ ∀ i, i < 128 * x + 8 + k ∨ 128 * x + 8 + n ≤ i → g2 i = g i := by
  have hl := b.2.2.1
  intro r
  induction r with
  | zero =>
    intro fu k g hk hf
    obtain ⟨fu, rfl⟩ : ∃ f, fu = f + 1 := ⟨fu - 1, by omega⟩
    refine ⟨g, ?_, fun j h1 h2 => by omega, fun _ _ => rfl⟩
    unfold g_startTag_19
    rw [if_pos (nI_le (by omega) (by omega))]
  | succ r ih =>
    intro fu k g hk hf
    obtain ⟨fu, rfl⟩ : ∃ f, fu = f + 1 := ⟨fu - 1, by omega⟩
    unfold g_startTag_19
    rw [if_neg (nI_ge (by omega) (by omega)), if_neg (show ¬ (40 : Int32) ≤ nI x from nI_ge (b := 40) (by omega) (by decide)), show (mb s g).1 8 = nI p from h8, nI_1, nI_add, mp_look (m.mb.buf b) (by omega), Option.bind_some, show (8 : Int32) = nI 8 from rfl, e128, nI_add, mp_ix (by omega) (by decide)]
    simp only [mm_lt, mb_G]
    rw [nI_1]
    obtain ⟨g2, h1, h2, h3⟩ := ih fu (k + 1) (upd g (128 * x + 8 + k) (nI (xs.getD (p + 1 + k) 0))) (by omega) (by omega)
    refine ⟨g2, h1, fun j q1 q2 => ?_, fun i hi => by rw [h3 i (by omega), upd_n (by omega)]⟩
    by_cases e : j = k
    · subst e
      rw [h3 _ (by omega), upd_s]
    · exact h2 j (by omega) q2
/-- behind the attributes -/
theorem rm_128 (b : md_buf st0 xs) (hW : W.length ≤ 200) (hS : S.length < 8) {ov : Bool} {p q n : Nat} {w : wn} (hq : q ≤ xs.length) (h8 : st.1 8 = nI p) (h12 : st.1 12 = -1) (R : mR st0 base st (W ++ [w]) ov S) : (xs.getD q 0 = 47 → xs.getD (q + 1) 0 ≠ 62 → mq (g_startTag_128 (nI W.length) (nI n) (nI q) st) (fun s => mFr st0 s ∧ s.1 9 = nI (q + 1))) ∧ (xs.getD q 0 = 47 → xs.getD (q + 1) 0 = 62 → mq (g_startTag_128 (nI W.length) (nI n) (nI q) st) (fun s => mR st0 base s (W ++ [w]) ov S ∧ s.1 8 = nI (q + 2) ∧ s.1 12 = -1)) ∧ (xs.getD q 0 ≠ 47 → xs.getD q 0 ≠ 62 → mq (g_startTag_128 (nI W.length) (nI n) (nI q) st) (fun s => mFr st0 s ∧ s.1 9 = nI q)) ∧ (xs.getD q 0 ≠ 47 → xs.getD q 0 = 62 → mq (g_startTag_128 (nI W.length) (nI n) (nI q) st) (fun s => mR st0 base s (W ++ [w]) ov (S ++ [(W.length, p + 1, n)]) ∧ s.1 8 = nI (q + 1) ∧ s.1 12 = -1)) := by
  have hl := b.2.2.1
  have bs := R.buf b
  have h9 : st.1 9 = -1 := R.2.1
  have lc := getD_lt bs.2.2.2 q
  have c47 : nI (xs.getD q 0) = 47 ↔ xs.getD q 0 = 47 := nI_eq (b := 47) (by omega) (by decide)
  have e2 : nI q + 2 = nI (q + 2) := nI_add _ 2
  have n1 : ¬ ((1 : Int32), st).1 = 0 := (by decide : ¬ (1 : Int32) = 0)
  unfold g_startTag_128
  rw [if_pos (show st.1 9 < 0 by rw [h9]; decide), mp_look bs (by omega), Option.bind_some]
  simp only []
  refine ⟨fun w1 w2 => ?_, fun w1 w2 => ?_, fun w1 w2 => ?_, fun w1 w2 => ?_⟩
  · have := getD_pos w1 (by decide)
    rw [if_pos (c47.mpr w1), nI_1, show (62 : Int32) = nI 62 from rfl, rm_must bs (by decide) h9 (by omega), if_neg w2, Option.bind_some]
    exact mq_some ⟨(R.1.F (by unfold mfld; omega)).F (by unfold mfld; omega), (fF_n (by decide)).trans fF_s⟩
  · have := getD_pos w1 (by decide)
    rw [if_pos (c47.mpr w1), nI_1, show (62 : Int32) = nI 62 from rfl, rm_must bs (by decide) h9 (by omega), if_pos w2, Option.bind_some]
    exact mq_some ⟨R.F (by omega), fF_s.trans e2, (fF_n (by decide)).trans h12⟩
  · rw [if_neg (fun w => w1 (c47.mp w)), show (62 : Int32) = nI 62 from rfl, rm_must bs (by decide) h9 hq, if_neg w2, Option.bind_some, if_pos rfl]
    exact mq_some ⟨R.1.F (by unfold mfld; omega), fF_s⟩
  · rw [if_neg (fun w => w1 (c47.mp w)), show (62 : Int32) = nI 62 from rfl, rm_must bs (by decide) h9 hq, if_pos w2, Option.bind_some, if_neg n1]
    obtain ⟨r1, r2, r3, r4, r5, r6, r7, r8⟩ := R
    simp only [mm_lt]
    rw [r6, mp_ix hS (by decide)]
    have i14 : ∀ v, (mm_G st 15 S.length v).1 14 = nI S.length := fun _ => r6
    rw [i14, mp_ix hS (by decide)]
    have i14' : ∀ v u, (mm_G (mm_G st 15 S.length v) 16 S.length u).1 14 = nI S.length := fun _ _ => r6
    rw [i14', mp_ix hS (by decide)]
    have i14'' : ∀ v u t, (mm_G (mm_G (mm_G st 15 S.length v) 16 S.length u) 17 S.length t).1 14 = nI S.length := fun _ _ _ => r6
    rw [i14'', show (mm_G st 15 S.length (nI W.length)).1 8 = nI p from h8, nI_1, nI_1]
    have f : ∀ (s : mT) (k : Nat), k ≠ 14 → k ≠ 8 → (mm_F (mm_F s 14 (nI (S.length + 1))) 8 (nI q + 1)).1 k = s.1 k := fun s k q1 q2 => (fF_n q2).trans (fF_n q1)
    refine mq_some ⟨⟨?_, (f _ 9 (by decide) (by decide)).trans r2, (f _ 10 (by decide) (by decide)).trans r3, ?_, (f _ 13 (by decide) (by decide)).trans r5, ?_, fun i hi => ?_, r8⟩, ?_, (f _ 12 (by decide) (by decide)).trans h12⟩
    · exact ((((r1.G (by unfold marr; omega)).G (by unfold marr; omega)).G (by unfold marr; omega)).F (by unfold mfld; omega)).F (by unfold mfld; omega)
    · rw [f _ 11 (by decide) (by decide)]
      exact r4
    · rw [len_snoc]
      exact (fF_n (by decide)).trans fF_s
    · rw [len_snoc] at hi
      show upd (st.2.1 15) S.length (nI W.length) i = _ ∧ upd (st.2.1 16) S.length (nI (p + 1)) i = _ ∧ upd (st.2.1 17) S.length (nI n) i = _
      by_cases e : i < S.length
      · rw [upd_n (by omega), upd_n (by omega), upd_n (by omega), getD_left e]
        exact r7 i e
      · have e3 : i = S.length := by omega
        subst e3
        rw [upd_s, upd_s, upd_s, getD_snoc]
        exact ⟨rfl, rfl, rfl⟩
    · rw [fF_s, nI_1]
theorem rm_start (b : md_buf st0 xs) (hx : ∀ c ∈ xs, c ≠ 0) (hW : W.length < 200) (hS : S.length < 8) (lk : sLk par S) {ov : Bool} {p : Nat} (hp : p + 1 ≤ xs.length) (h8 : st.1 8 = nI p) (R : mR st0 base st W ov S) (dep : Nat) (lab : List Int32) : (∀ e, p_st xs p ov = .inl e → mq (g_startTag st) (fun s => mFr st0 s ∧ s.1 9 = nI e)) ∧ ∀ q att ov1 cl, p_st xs p ov = .inr (q, att, ov1, cl) → mq (g_startTag st) (fun s => mR st0 base s (W ++ [(1, par, dep, lab, att, (xs.drop (p + 1)).take (a_let xs (p + 1)))]) ov1 (if cl = true then S else S ++ [(W.length, p + 1, a_let xs (p + 1))]) ∧ s.1 8 = nI q ∧ s.1 12 = -1) := by
  have hl := b.2.2.1
  have l6 := (a_let_small (xs := xs) (p := p + 1)).1
  have lp := a_let_le (xs := xs) (p := p + 1) hp
  have ln := len_tk (xs := xs) (p := p + 1) (n := a_let xs (p + 1)) lp
  obtain ⟨s1, m1, m2, m3, m4⟩ := rm_make R (by omega) lk (by omega) 1 dep lab
  change g_make 1 st = _ at m1
  rw [if_neg (by decide)] at m4
  have b1 := m2.buf b
  have h81 : s1.1 8 = nI p := (m3 8 (by decide) (by decide)).trans h8
  -- the name
  have nmS : ∃ s2, g_startTag_19 mF (nI W.length) (nI (a_let xs (p + 1))) 0 s1 = g_startTag_82 (nI W.length) (nI (a_let xs (p + 1))) s2 ∧ mR st0 base s2 (W ++ [(1, par, dep, lab, [], (xs.drop (p + 1)).take (a_let xs (p + 1)))]) ov S ∧ s2.1 8 = nI p ∧ s2.1 12 = -1 := by
    by_cases q : W.length < 40
    · obtain ⟨g2, a1, a2, a3⟩ := rm_19 b (s := s1) (x := W.length) (p := p) (n := a_let xs (p + 1)) m2.1 h81 q l6 lp (a_let xs (p + 1)) mF 0 (s1.2.1 2) (by omega) (by unfold mF; omega)
      rw [mb_id] at a1
      rw [show (0 : Int32) = nI 0 from rfl, a1]
      unfold g_startTag_63
      rw [if_neg (show ¬ (40 : Int32) ≤ nI W.length from nI_ge (b := 40) (by omega) (by decide)), show (3 : Int32) = nI 3 from rfl, e128, mp_ix (by omega) (by decide)]
      simp only [mm_lt, mb_G]
      have r0 : wR (s1.2.1 2) W.length 1 (wPs par) [] [] := (m2.row q).2
      have r1 := r0.name (nm := (xs.drop (p + 1)).take (a_let xs (p + 1))) (g2 := g2) (by rw [ln]; exact l6) ⟨fun j hj => by rw [ln] at hj; rw [getD_tk hj]; exact a2 j (Nat.zero_le _) hj, fun i hi => a3 i (by rw [ln] at hi; omega)⟩
      rw [ln] at r1
      have m := m2.last (g2 := upd g2 (128 * W.length + 3) (nI (a_let xs (p + 1)))) (v := s1.1 11) (ov2 := ov) (w2 := (1, par, dep, lab, [], (xs.drop (p + 1)).take (a_let xs (p + 1)))) (fun i hi => by rw [upd_n (by omega)]; exact a3 i (by omega)) m2.ovl (fun _ => ⟨fun q hq => (by cases hq), by
        show wR _ _ 1 (wPs par) [] (((xs.drop (p + 1)).take (a_let xs (p + 1))).take 20)
        rw [List.take_of_length_le (by rw [ln]; omega)]
        exact r1⟩)
      rw [mF_id] at m
      exact ⟨_, rfl, m, h81, m4⟩
    · refine ⟨s1, ?_, m2.last0 m2.ovl (fun w => absurd w q), h81, m4⟩
      have g40 : (40 : Int32) ≤ nI W.length := nI_le (a := 40) (by omega) (by omega)
      rw [show mF = 5999 + 1 from rfl]
      unfold g_startTag_19 g_startTag_63
      by_cases w : nI (a_let xs (p + 1)) ≤ 0
      · rw [if_pos w, if_pos g40]
      · rw [if_neg w, if_pos g40, if_pos g40]
  obtain ⟨s2, n1, n2, n3, n4⟩ := nmS
  have eq0 : g_startTag st = g_startTag_94 mF (nI W.length) (nI (a_let xs (p + 1))) (nI (p + 1 + a_let xs (p + 1))) (nI ([] : List (List Nat × List Nat)).length) s2 := by
    unfold g_startTag
    rw [m1, Option.bind_some]
    show (g_letters (s1.1 8 + 1) s1).bind _ = _
    rw [h81, nI_1, mp_letters b1 (by omega), Option.bind_some]
    show g_startTag_19 mF (nI W.length) (nI (a_let xs (p + 1))) 0 s1 = _
    rw [n1]
    unfold g_startTag_82
    rw [n3, nI_1, nI_add]
    rfl
  have A := rm_atts (W := W) (x2 := nI (a_let xs (p + 1))) (tx := (xs.drop (p + 1)).take (a_let xs (p + 1))) (par := par) (dep := dep) (lab := lab) (base := base) (S := S) b hx (by omega) 130 mF (p + 1 + a_let xs (p + 1)) [] ov s2 lp (by omega) (by unfold mF; omega) (by simp) (fun q hq => (by cases hq)) (fun a ha => absurd ha (by simp)) (by rw [show decide (3 < ([] : List (List Nat × List Nat)).length) = false from rfl, Bool.or_false]; exact n2)
  rw [← eq0] at A
  have L := p_atts_le (xs := xs) 130 (p + 1 + a_let xs (p + 1)) [] ov lp
  unfold p_st
  cases e : p_atts xs 130 (p + 1 + a_let xs (p + 1)) [] ov with
  | inl e1 =>
    refine ⟨fun e2 h => ?_, fun q att ov1 cl h => by cases h⟩
    cases h
    exact A.1 e1 e
  | inr r =>
    obtain ⟨q, att, ov1⟩ := r
    obtain ⟨s, c1, c2, c3, c4⟩ := A.2 q att ov1 e
    have B := rm_128 b (W := W) (n := a_let xs (p + 1)) (by omega) hS (L.2 q att ov1 e).2 (c3.trans n3) (c4.trans n4) c2
    rw [c1]
    simp only []
    by_cases a1 : xs.getD q 0 = 47
    · rw [if_pos a1]
      by_cases a2 : xs.getD (q + 1) 0 = 62
      · rw [if_pos a2]
        refine ⟨fun e2 h => (by cases h), fun q1 att1 ov2 cl h => ?_⟩
        cases h
        rw [if_pos rfl]
        exact B.2.1 a1 a2
      · rw [if_neg a2]
        refine ⟨fun e2 h => ?_, fun q1 att1 ov2 cl h => by cases h⟩
        cases h
        exact B.1 a1 a2
    · rw [if_neg a1]
      by_cases a2 : xs.getD q 0 = 62
      · rw [if_neg (fun w => w a2)]
        refine ⟨fun e2 h => (by cases h), fun q1 att1 ov2 cl h => ?_⟩
        cases h
        rw [if_neg (by decide)]
        exact B.2.2.2 a1 a2
      · rw [if_pos a2]
        refine ⟨fun e2 h => ?_, fun q1 att1 ov2 cl h => by cases h⟩
        cases h
        exact B.2.2.1 a1 a2
end QM8
-- the reference reads: comments and end tags
theorem p_dash_at {xs : List Nat} : p_dash xs xs.length = xs.length := by
  unfold p_dash
  rw [Nat.sub_self]
  rfl
theorem p_dash_step {xs : List Nat} {q : Nat} (hq : q < xs.length) : p_dash xs q = if xs.getD q 0 = 45 ∧ xs.getD (q + 1) 0 = 45 then q else p_dash xs (q + 1) := by
  unfold p_dash
  have st : ∀ (P : Nat → Bool) (m : Nat), mp_fst P (m + 1) q = if P q then some q else mp_fst P m (q + 1) := fun _ _ => rfl
  rw [show xs.length - q = (xs.length - (q + 1)) + 1 by omega, st]
  by_cases e : xs.getD q 0 = 45 ∧ xs.getD (q + 1) 0 = 45
  · rw [if_pos (decide_eq_true e), if_pos e]
  · rw [if_neg (by simpa using e), if_neg e]
section QM9
variable {st0 st : mT} {xs : List Nat} {base : Nat} {W : List wn} {S : List (Nat × Nat × Nat)} {par : Option Nat} {dep : Nat} {lab : List Int32} {ov : Bool}
theorem take_more {xs : List Nat} {p q : Nat} (h1 : p ≤ q) (h2 : q < xs.length) : (xs.drop p).take (q + 1 - p) = (xs.drop p).take (q - p) ++ [xs.getD q 0] := by
  rw [show q + 1 - p = (q - p) + 1 by omega, List.take_add_one, List.getElem?_drop, show p + (q - p) = q by omega, List.getElem?_eq_getElem h2, List.getD_eq_getElem?_getD, List.getElem?_eq_getElem h2]
  rfl
theorem rm_comL (b : md_buf st0 xs) (hW : W.length < 200) {p : Nat} : ∀ (r fu q : Nat) (st : mT), q + r = xs.length → p ≤ q → r + 1 < fu → mR st0 base st (W ++ [(3, par, dep, lab, [], (xs.drop p).take (q - p))]) (ov || decide (20 < q - p)) S → (xs.getD (p_dash xs q) 0 = 45 ∧ xs.getD (p_dash xs q + 1) 0 = 45 → ∃ s, g_comment_44 fu (nI W.length) (nI q) st = g_comment_108 (nI (p_dash xs q)) s ∧ mR st0 base s (W ++ [(3, par, dep, lab, [], (xs.drop p).take (p_dash xs q - p))]) (ov || decide (20 < p_dash xs q - p)) S ∧ s.1 12 = st.1 12) ∧ (¬ (xs.getD (p_dash xs q) 0 = 45 ∧ xs.getD (p_dash xs q + 1) 0 = 45) → p_dash xs q = xs.length ∧ mq (g_comment_44 fu (nI W.length) (nI q) st) (fun s => mFr st0 s ∧ s.1 9 = nI xs.length)) := by
  have hl := b.2.2.1
  intro r
  induction r with
  | zero =>
    intro fu q st h1 hp h2 R
    obtain ⟨fu, rfl⟩ : ∃ f, fu = f + 2 := ⟨fu - 2, by omega⟩
    have e : q = xs.length := by omega
    subst e
    have bs := R.buf b
    have h9 : st.1 9 = -1 := R.2.1
    have g0 : xs.getD xs.length 0 = 0 := by rw [List.getD_eq_getElem?_getD, List.getElem?_eq_none (Nat.le_refl _)]; rfl
    rw [p_dash_at, g0]
    refine ⟨fun w => absurd w.1 (by decide), fun _ => ⟨rfl, ?_⟩⟩
    have b2 : md_buf (mm_F st 9 (nI xs.length)) xs := (R.1.F (k := 9) (by unfold mfld; omega)).buf b
    have ap := rm_app (st := mm_F st 9 (nI xs.length)) (x := W.length) (l := 3) (f := 8) (n := (((xs.drop p).take (xs.length - p)).take 20).length) (c := 0) (fun q => (R.row q).2.2.2.1) (by rw [List.length_take]; omega) (by decide) (by decide) (by omega)
    change g_append (nI W.length) 3 8 (nI 0) _ = _ at ap
    have fin : ∀ s, g_append (nI W.length) 3 8 (nI 0) (mm_F st 9 (nI xs.length)) = some s → mFr st0 s → s.1 9 = nI xs.length → mq (g_comment_44 (fu + 2) (nI W.length) (nI xs.length) st) (fun s => mFr st0 s ∧ s.1 9 = nI xs.length) := fun s e1 e2 e3 => by
      unfold g_comment_44
      rw [if_neg (show ¬ (0 : Int32) ≤ st.1 9 by rw [h9]; decide), mp_look bs (by omega), Option.bind_some, g0]
      simp only []
      rw [if_neg (by decide)]
      unfold g_comment_73 g_comment_89
      rw [bs.1, if_neg (nI_nlt (Nat.le_refl _) (by omega)), rm_err bs h9 (Nat.le_refl _), Option.bind_some, mp_look b2 (by omega), Option.bind_some, g0]
      simp only []
      rw [e1, Option.bind_some]
      have h0 : (0 : Int32) ≤ s.1 9 := by rw [e3]; exact nI_le (Nat.zero_le _) (by omega)
      unfold g_comment_44 g_comment_108
      rw [if_pos h0, nI_1, show nI (xs.length + 1) + 2 = nI (xs.length + 1 + 2) from nI_add _ 2, rm_must1 (e2.buf b) (by omega) h0, Option.bind_some]
      exact mq_some ⟨e2.F (by unfold mfld; omega), (fF_n (by decide)).trans e3⟩
    refine fin _ ap ?_ ?_
    · have m9 : mFr st0 (mm_F st 9 (nI xs.length)) := R.1.F (by unfold mfld; omega)
      split
      · split
        · exact m9.mb
        · exact m9.F (by unfold mfld; omega)
      · exact m9
    · split
      · split
        · exact fF_s (st := st) (k := 9)
        · exact (fF_n (by decide)).trans fF_s
      · exact fF_s
  | succ r ih =>
    intro fu q st h1 hp h2 R
    obtain ⟨fu, rfl⟩ : ∃ f, fu = f + 1 := ⟨fu - 1, by omega⟩
    have bs := R.buf b
    have h9 : st.1 9 = -1 := R.2.1
    have lc := getD_lt bs.2.2.2 q
    have lc1 := getD_lt bs.2.2.2 (q + 1)
    have c45 : nI (xs.getD q 0) = 45 ↔ xs.getD q 0 = 45 := nI_eq (b := 45) (by omega) (by decide)
    have c45' : nI (xs.getD (q + 1) 0) = 45 ↔ xs.getD (q + 1) 0 = 45 := nI_eq (b := 45) (by omega) (by decide)
    have eL : (ov || decide (20 < ((xs.drop p).take (q - p)).length)) = (ov || decide (20 < q - p)) := by rw [len_tk (by omega)]
    have eL2 : (ov || decide (20 < ((xs.drop p).take (q - p) ++ [xs.getD q 0]).length)) = (ov || decide (20 < q + 1 - p)) := by rw [len_snoc, len_tk (by omega), show q - p + 1 = q + 1 - p by omega]
    obtain ⟨s, a1, a2, a3⟩ := rm_appT (W := W) (tx := (xs.drop p).take (q - p)) (by omega) (by rw [eL]; exact R) (xs.getD q 0)
    rw [eL2, ← take_more hp (by omega)] at a2
    have I := ih fu (q + 1) s (by omega) (by omega) (by omega) a2
    rw [p_dash_step (by omega)]
    have e73 : g_comment_73 (g_comment_44 fu) (nI W.length) (nI q) st = g_comment_44 fu (nI W.length) (nI (q + 1)) s := by
      unfold g_comment_73 g_comment_89
      rw [bs.1, if_pos (nI_lt (by omega) (by omega)), mp_look bs (by omega), Option.bind_some]
      simp only []
      rw [a1, Option.bind_some, nI_1]
    unfold g_comment_44
    rw [if_neg (show ¬ (0 : Int32) ≤ st.1 9 by rw [h9]; decide), mp_look bs (by omega), Option.bind_some]
    simp only []
    by_cases q1 : xs.getD q 0 = 45
    · rw [if_pos (c45.mpr q1), nI_1, mp_look bs (by omega), Option.bind_some]
      simp only []
      by_cases q2 : xs.getD (q + 1) 0 = 45
      · rw [if_pos (c45'.mpr q2), if_pos (show xs.getD q 0 = 45 ∧ xs.getD (q + 1) 0 = 45 from ⟨q1, q2⟩)]
        exact ⟨fun _ => ⟨st, rfl, R, rfl⟩, fun w => absurd ⟨q1, q2⟩ w⟩
      · rw [if_neg (fun w => q2 (c45'.mp w)), if_neg (show ¬ (xs.getD q 0 = 45 ∧ xs.getD (q + 1) 0 = 45) from fun w => q2 w.2), e73]
        refine ⟨fun w => ?_, I.2⟩
        obtain ⟨s1, d1, d2, d3⟩ := I.1 w
        exact ⟨s1, d1, d2, d3.trans (a3 12 (by decide))⟩
    · rw [if_neg (fun w => q1 (c45.mp w)), if_neg (show ¬ (xs.getD q 0 = 45 ∧ xs.getD (q + 1) 0 = 45) from fun w => q1 w.1), e73]
      refine ⟨fun w => ?_, I.2⟩
      obtain ⟨s1, d1, d2, d3⟩ := I.1 w
      exact ⟨s1, d1, d2, d3.trans (a3 12 (by decide))⟩
theorem rm_com (b : md_buf st0 xs) (hW : W.length < 200) (hS : S.length ≤ 8) (lk : sLk par S) {p : Nat} (g1 : xs.getD (p + 1) 0 = 33) (h8 : st.1 8 = nI p) (R : mR st0 base st W ov S) (dep : Nat) (lab : List Int32) : (∀ e, p_com xs par dep lab p W ov = .inl e → mq (g_comment st) (fun s => mFr st0 s ∧ s.1 9 = nI e)) ∧ ∀ q W1 ov1, p_com xs par dep lab p W ov = .inr (q, W1, ov1) → mq (g_comment st) (fun s => mR st0 base s W1 ov1 S ∧ s.1 8 = nI q ∧ s.1 12 = -1) := by
  have hl := b.2.2.1
  have hp1 := getD_pos g1 (by decide)
  have bs := R.buf b
  have h9 : st.1 9 = -1 := R.2.1
  have n1 : ¬ ((1 : Int32), st).1 = 0 := (by decide : ¬ (1 : Int32) = 0)
  have bad : ∀ (s : mT) (k : Nat), mFr st0 s → mq (some (mm_F s 9 (nI k))) (fun s => mFr st0 s ∧ s.1 9 = nI k) := fun s k m => mq_some ⟨m.F (by unfold mfld; omega), fF_s⟩
  unfold p_com g_comment
  rw [h8, show nI p + 2 = nI (p + 2) from nI_add _ 2, show (45 : Int32) = nI 45 from rfl, rm_must bs (by decide) h9 (by omega)]
  by_cases q1 : xs.getD (p + 2) 0 = 45
  · rw [if_neg (fun w => w q1), if_pos q1, Option.bind_some, if_neg n1]
    have hp2 := getD_pos q1 (by decide)
    rw [show ((1 : Int32), st).2.1 8 = nI p from h8, show nI p + 3 = nI (p + 3) from nI_add _ 3, rm_must bs (by decide) h9 (by omega)]
    by_cases q2 : xs.getD (p + 3) 0 = 45
    · have hp3 := getD_pos q2 (by decide)
      rw [if_neg (fun w => w q2), if_pos q2, Option.bind_some, if_neg n1]
      obtain ⟨s1, m1, m2, m3, m4⟩ := rm_make R (by omega) lk hS 3 dep lab
      change g_make 3 st = _ at m1
      rw [if_neg (by decide)] at m4
      rw [show g_make 3 ((1 : Int32), st).2 = _ from m1, Option.bind_some, show ((nI W.length, s1) : Int32 × mT).2.1 8 = nI p from (m3 8 (by decide) (by decide)).trans h8, show nI p + 4 = nI (p + 4) from nI_add _ 4]
      have L := rm_comL (ov := ov) b hW (xs.length - (p + 4)) mF (p + 4) s1 (by omega) (Nat.le_refl _) (by unfold mF; omega) (by rw [Nat.sub_self, decide_eq_false (by decide), Bool.or_false]; exact m2)
      by_cases q3 : xs.getD (p_dash xs (p + 4)) 0 = 45 ∧ xs.getD (p_dash xs (p + 4) + 1) 0 = 45
      · obtain ⟨s2, d1, d2, d3⟩ := L.1 q3
        have hd := getD_pos q3.2 (by decide)
        rw [if_neg (fun w => w q3.1), if_neg (fun w => w q3.2)]
        have b2 := d2.buf b
        have c1 : g_comment_44 mF (nI W.length) (nI (p + 4)) s1 = ((g_must (nI (p_dash xs (p + 4) + 2)) 62 s2).bind (fun q4 => some (mm_F q4.2 8 (nI (p_dash xs (p + 4) + 3))))) := by
          rw [d1]
          unfold g_comment_108
          rw [show nI (p_dash xs (p + 4)) + 2 = nI (p_dash xs (p + 4) + 2) from nI_add _ 2, show nI (p_dash xs (p + 4)) + 3 = nI (p_dash xs (p + 4) + 3) from nI_add _ 3]
          rfl
        rw [show g_comment_44 mF (nI W.length, s1).1 (nI (p + 4)) (nI W.length, s1).2 = _ from c1, show (62 : Int32) = nI 62 from rfl, rm_must b2 (by decide) d2.2.1 (by omega)]
        by_cases q4 : xs.getD (p_dash xs (p + 4) + 2) 0 = 62
        · rw [if_neg (fun w => w q4), if_pos q4, Option.bind_some]
          refine ⟨fun e h => (by cases h), fun q W1 ov1 h => ?_⟩
          cases h
          exact mq_some ⟨d2.F (by omega), fF_s, (fF_n (by decide)).trans (d3.trans m4)⟩
        · rw [if_pos q4, if_neg q4, Option.bind_some]
          refine ⟨fun e h => ?_, fun q W1 ov1 h => by cases h⟩
          cases h
          exact mq_some ⟨(d2.1.F (by unfold mfld; omega)).F (by unfold mfld; omega), (fF_n (by decide)).trans fF_s⟩
      · obtain ⟨d1, d2⟩ := L.2 q3
        have g0 : xs.getD xs.length 0 = 0 := by rw [List.getD_eq_getElem?_getD, List.getElem?_eq_none (Nat.le_refl _)]; rfl
        rw [d1, if_pos (by rw [g0]; decide)]
        refine ⟨fun e h => ?_, fun q W1 ov1 h => by cases h⟩
        cases h
        exact d2
    · rw [if_pos q2, if_neg q2, Option.bind_some, if_pos rfl]
      refine ⟨fun e h => ?_, fun q W1 ov1 h => by cases h⟩
      cases h
      exact bad _ _ R.1
  · rw [if_pos q1, if_neg q1, Option.bind_some, if_pos rfl]
    refine ⟨fun e h => ?_, fun q W1 ov1 h => by cases h⟩
    cases h
    exact bad _ _ R.1
theorem rm_endE (b : md_buf st0 xs) {fr n p e : Nat} (hp : p ≤ xs.length) (hf : fr + n ≤ xs.length) (he : e ≤ xs.length) : ∀ (r fu k : Nat) (st : mT), k + r = n → r < fu → mFr st0 st → st.1 8 = nI p → st.1 9 = nI e → mq (g_endTag_26 fu (nI fr) (nI n) (nI k) st) (fun s => mFr st0 s ∧ s.1 9 = nI e) := by
  have hl := b.2.2.1
  intro r
  induction r with
  | zero =>
    intro fu k st hk hf2 m h8 h9
    obtain ⟨fu, rfl⟩ : ∃ f, fu = f + 1 := ⟨fu - 1, by omega⟩
    have h0 : (0 : Int32) ≤ st.1 9 := by rw [h9]; exact nI_le (Nat.zero_le _) (by omega)
    unfold g_endTag_26
    rw [if_pos (nI_le (by omega) (by omega)), h8, show nI p + 2 = nI (p + 2) from nI_add _ 2, nI_add, rm_must1 (m.buf b) (by omega) h0, Option.bind_some]
    exact mq_some ⟨((m.F (by unfold mfld; omega)).F (by unfold mfld; omega)).F (by unfold mfld; omega), (fF_n (by decide)).trans ((fF_n (by decide)).trans ((fF_n (by decide)).trans h9))⟩
  | succ r ih =>
    intro fu k st hk hf2 m h8 h9
    obtain ⟨fu, rfl⟩ : ∃ f, fu = f + 1 := ⟨fu - 1, by omega⟩
    have h0 : (0 : Int32) ≤ st.1 9 := by rw [h9]; exact nI_le (Nat.zero_le _) (by omega)
    unfold g_endTag_26
    rw [if_neg (nI_ge (by omega) (by omega)), nI_add, mp_look (m.buf b) (by omega), Option.bind_some, h8, show nI p + 2 = nI (p + 2) from nI_add _ 2, nI_add, rm_must1 (m.buf b) (by omega) h0, Option.bind_some, nI_1]
    exact ih fu (k + 1) st (by omega) (by omega) m h8 h9
theorem drop_tk {xs : List Nat} {fr n k : Nat} (hf : fr + n ≤ xs.length) (hk : k < n) : ((xs.drop fr).take n).drop k = xs.getD (fr + k) 0 :: ((xs.drop fr).take n).drop (k + 1) := by
  rw [List.drop_eq_getElem_cons (by rw [len_tk hf]; exact hk)]
  congr 1
  rw [List.getElem_take, List.getElem_drop, List.getD_eq_getElem?_getD, List.getElem?_eq_getElem (by omega)]
  rfl
theorem rm_endL (b : md_buf st0 xs) {x fr n p : Nat} (hf : fr + n ≤ xs.length) (hn : ∀ j, j < n → xs.getD (fr + j) 0 ≠ 0) : ∀ (r fu k : Nat) (st : mT), k + r = n → r < fu → p + 2 + k ≤ xs.length → st.1 8 = nI p → mR st0 base st W ov (S ++ [(x, fr, n)]) → (∀ e, p_end xs (((xs.drop fr).take n).drop k) (p + 2 + k) = .inl e → mq (g_endTag_26 fu (nI fr) (nI n) (nI k) st) (fun s => mFr st0 s ∧ s.1 9 = nI e)) ∧ ∀ q, p_end xs (((xs.drop fr).take n).drop k) (p + 2 + k) = .inr q → mq (g_endTag_26 fu (nI fr) (nI n) (nI k) st) (fun s => mR st0 base s W ov S ∧ s.1 8 = nI q ∧ s.1 12 = -1) := by
  have hl := b.2.2.1
  intro r
  induction r with
  | zero =>
    intro fu k st hk hf2 hp h8 R
    obtain ⟨fu, rfl⟩ : ∃ f, fu = f + 1 := ⟨fu - 1, by omega⟩
    obtain rfl : k = n := by omega
    have bs := R.buf b
    have h9 : st.1 9 = -1 := R.2.1
    unfold g_endTag_26
    rw [if_pos (nI_le (Nat.le_refl _) (by omega)), h8, show nI p + 2 = nI (p + 2) from nI_add _ 2, nI_add, show (62 : Int32) = nI 62 from rfl, rm_must bs (by decide) h9 hp, List.drop_eq_nil_of_le (by rw [len_tk hf]; exact Nat.le_refl _)]
    unfold p_end
    by_cases q1 : xs.getD (p + 2 + k) 0 = 62
    · rw [if_pos q1, if_pos q1, Option.bind_some]
      refine ⟨fun e h => (by cases h), fun q h => ?_⟩
      cases h
      obtain ⟨r1, r2, r3, r4, r5, r6, r7, r8⟩ := R
      rw [len_snoc] at r6
      simp only [mm_lt]
      have e1 : st.1 14 - 1 = nI S.length := by
        rw [r6, show (1 : Int32) = nI 1 from rfl, nI_sub (by omega)]
        rfl
      have e2 : (mm_F (mm_F st 14 (st.1 14 - 1)) 12 (-1)).1 8 = nI p := (fF_n (by decide)).trans ((fF_n (by decide)).trans h8)
      rw [e2]
      have f : ∀ k2, k2 ≠ 14 → k2 ≠ 12 → k2 ≠ 8 → (mm_F (mm_F (mm_F st 14 (st.1 14 - 1)) 12 (-1)) 8 (nI p + 3 + nI k)).1 k2 = st.1 k2 := fun k2 q1 q2 q3 => (fF_n q3).trans ((fF_n q2).trans (fF_n q1))
      refine mq_some ⟨⟨((r1.F (by unfold mfld; omega)).F (by unfold mfld; omega)).F (by unfold mfld; omega), (f 9 (by decide) (by decide) (by decide)).trans r2, (f 10 (by decide) (by decide) (by decide)).trans r3, by rw [f 11 (by decide) (by decide) (by decide)]; exact r4, (f 13 (by decide) (by decide) (by decide)).trans r5, (fF_n (by decide)).trans ((fF_n (by decide)).trans (fF_s.trans e1)), fun i hi => ?_, r8⟩, fF_s.trans ?_, (fF_n (by decide)).trans fF_s⟩
      · have := r7 i (by rw [len_snoc]; omega)
        rw [getD_left hi] at this
        exact this
      · rw [show nI p + 3 = nI (p + 3) from nI_add _ 3, nI_add]
        congr 1
        omega
    · rw [if_neg q1, if_neg q1, Option.bind_some]
      refine ⟨fun e h => ?_, fun q h => by cases h⟩
      cases h
      exact mq_some ⟨(((R.1.F (by unfold mfld; omega)).F (by unfold mfld; omega)).F (by unfold mfld; omega)).F (by unfold mfld; omega), (fF_n (by decide)).trans ((fF_n (by decide)).trans ((fF_n (by decide)).trans fF_s))⟩
  | succ r ih =>
    intro fu k st hk hf2 hp h8 R
    obtain ⟨fu, rfl⟩ : ∃ f, fu = f + 1 := ⟨fu - 1, by omega⟩
    have bs := R.buf b
    have h9 : st.1 9 = -1 := R.2.1
    have lc := getD_lt bs.2.2.2 (fr + k)
    unfold g_endTag_26
    rw [if_neg (nI_ge (by omega) (by omega)), nI_add, mp_look bs (by omega), Option.bind_some, h8, show nI p + 2 = nI (p + 2) from nI_add _ 2, nI_add]
    simp only []
    rw [rm_must bs lc h9 hp, drop_tk hf (by omega)]
    unfold p_end
    by_cases q1 : xs.getD (p + 2 + k) 0 = xs.getD (fr + k) 0
    · rw [if_pos q1, if_pos q1, Option.bind_some, nI_1]
      have hp2 := getD_pos q1 (hn k (by omega))
      exact ih fu (k + 1) st (by omega) (by omega) (by omega) h8 R
    · rw [if_neg q1, if_neg q1, Option.bind_some, nI_1]
      refine ⟨fun e h => ?_, fun q h => by cases h⟩
      cases h
      exact rm_endE b (p := p) (by omega) hf hp r fu (k + 1) _ (by omega) (by omega) (R.1.F (by unfold mfld; omega)) ((fF_n (by decide)).trans h8) fF_s
theorem rm_end (b : md_buf st0 xs) {x fr n p : Nat} (hS : S.length < 8) (hf : fr + n ≤ xs.length) (hn : ∀ j, j < n → xs.getD (fr + j) 0 ≠ 0) (hp : p + 2 ≤ xs.length) (h8 : st.1 8 = nI p) (R : mR st0 base st W ov (S ++ [(x, fr, n)])) : (∀ e, p_end xs ((xs.drop fr).take n) (p + 2) = .inl e → mq (g_endTag st) (fun s => mFr st0 s ∧ s.1 9 = nI e)) ∧ ∀ q, p_end xs ((xs.drop fr).take n) (p + 2) = .inr q → mq (g_endTag st) (fun s => mR st0 base s W ov S ∧ s.1 8 = nI q ∧ s.1 12 = -1) := by
  have hl := b.2.2.1
  have r6 := R.2.2.2.2.2.1
  have r7 := R.2.2.2.2.2.2.1 S.length (by rw [len_snoc]; omega)
  rw [getD_snoc] at r7
  rw [len_snoc] at r6
  have e1 : st.1 14 - 1 = nI S.length := by
    rw [r6, show (1 : Int32) = nI 1 from rfl, nI_sub (by omega)]
    rfl
  unfold g_endTag
  rw [e1, mp_ld hS (by decide), mp_ld hS (by decide), r7.2.1, r7.2.2]
  exact rm_endL b hf hn n mF 0 st (by omega) (by unfold mF; omega) hp h8 R
end QM9
-- the reference reads: its loop
theorem bind_id {α : Type} {o : Option α} : (o.bind fun q => some q) = o := by cases o <;> rfl
def mP (xs : List Nat) (st0 : mT) (base p : Nat) (st : mT) (W : List wn) (ov : Bool) (S : List (Nat × Nat × Nat)) : Prop := mR st0 base st W ov S ∧ st.1 8 = nI p ∧ (st.1 12 = -1 ∨ ((∃ t, t < 200 ∧ st.1 12 = nI t) ∧ (xs.getD p 0 = 60 ∨ xs.length ≤ p)))
def mImp (xs : List Nat) (st0 : mT) (base : Nat) (y1 : Int32) (Q : mT → Prop) (f : Option Nat → Nat → List Int32 → Nat → List wn → Bool → pR) (G : Nat → Nat → Prop) : Prop := ∀ par dep lab p W ov S st fu, p < xs.length → G p dep → W.length ≤ p → mP xs st0 base p st W ov S → sLk par S → dep = base + S.length → (S = [] → W = [] ∧ (y1 = 0 ∨ (xs.getD p 0 = 60 ∧ a_small (xs.getD (p + 1) 0) = true))) → (S ≠ [] → ¬ (xs.getD p 0 = 60 ∧ xs.getD (p + 1) 0 = 47)) → xs.length + 1 ≤ p + fu → (∀ e s, f par dep lab p W ov = .inl e → mFr st0 s → s.1 9 = nI e → Q s) → (∀ q W1 ov1 s fu2, f par dep lab p W ov = .inr (q, W1, ov1) → mP xs st0 base q s W1 ov1 S → xs.length + 1 ≤ q + fu2 → mq (g_parse_35 fu2 y1 s) Q) → mq (g_parse_35 fu y1 st) Q
section QM10
variable {st0 st : mT} {xs : List Nat} {base : Nat} {W : List wn} {S : List (Nat × Nat × Nat)} {par : Option Nat} {dep : Nat} {lab : List Int32} {ov : Bool} {y1 : Int32} {Q : mT → Prop}
theorem rm_stop {fu : Nat} (hf : 1 ≤ fu) (h : 0 ≤ st.1 9) : g_parse_35 fu y1 st = some st := by
  obtain ⟨fu, rfl⟩ : ∃ f, fu = f + 1 := ⟨fu - 1, by omega⟩
  unfold g_parse_35 g_parse_246 g_parse_260
  rw [if_pos h, rm_err1 h, Option.bind_some]
  split
  · rfl
  · split <;> rfl
theorem rm_stopQ {fu e : Nat} (hf : 1 ≤ fu) (he : e ≤ 1000) (h : st.1 9 = nI e) (hq : Q st) : mq (g_parse_35 fu y1 st) Q := by
  rw [rm_stop hf (by rw [h]; exact nI_le (Nat.zero_le _) (by omega))]
  exact mq_some hq
/-- one turn within an element -/
theorem rm_in (b : md_buf st0 xs) {fu p : Nat} (hp : p < xs.length) (h8 : st.1 8 = nI p) (R : mR st0 base st W ov S) (hS : S ≠ []) (hS8 : S.length ≤ 8) : g_parse_35 (fu + 1) y1 st = g_parse_112 (g_parse_35 fu) y1 (nI (xs.getD p 0)) 0 st := by
  have hl := b.2.2.1
  have bs := R.buf b
  have h9 : st.1 9 = -1 := R.2.1
  have l0 : 0 < S.length := List.length_pos_iff.mpr hS
  unfold g_parse_35
  rw [if_neg (by rw [h9]; decide), bs.1, h8, if_neg (nI_ge (by omega) (by omega)), mp_look bs (by omega), Option.bind_some]
  simp only []
  rw [if_neg (show ¬ st.1 14 = 0 by rw [R.2.2.2.2.2.1]; exact fun w => absurd ((nI_eq (b := 0) (by omega) (by decide)).mp w) (by omega))]
  unfold g_parse_74
  rw [if_pos rfl]
theorem rm_out (b : md_buf st0 xs) {fu p : Nat} (hp : p < xs.length) (h8 : st.1 8 = nI p) (R : mR st0 base st W ov []) (hW : W.length ≤ 200) : (W = [] → g_parse_35 (fu + 1) y1 st = g_parse_112 (g_parse_35 fu) y1 (nI (xs.getD p 0)) 1 st) ∧ (0 ≤ st.1 12 → xs.getD p 0 ≠ 60 → g_parse_35 (fu + 1) y1 st = g_parse_112 (g_parse_35 fu) y1 (nI (xs.getD p 0)) 1 st) ∧ (W ≠ [] → st.1 12 < 0 ∨ xs.getD p 0 = 60 → g_parse_35 (fu + 1) y1 st = g_parse_101 (g_parse_35 fu) y1 st) := by
  have hl := b.2.2.1
  have bs := R.buf b
  have h9 : st.1 9 = -1 := R.2.1
  have lc := getD_lt bs.2.2.2 p
  have c60 : nI (xs.getD p 0) = 60 ↔ xs.getD p 0 = 60 := nI_eq (b := 60) (by omega) (by decide)
  have e : g_parse_35 (fu + 1) y1 st = g_parse_74 (g_parse_35 fu) y1 (nI (xs.getD p 0)) 1 st := by
    unfold g_parse_35
    rw [if_neg (by rw [h9]; decide), bs.1, h8, if_neg (nI_ge (by omega) (by omega)), mp_look bs (by omega), Option.bind_some]
    simp only []
    rw [if_pos (show st.1 14 = 0 from R.2.2.2.2.2.1)]
  rw [e]
  unfold g_parse_74
  rw [if_neg (show ¬ (1 : Int32) = 0 by decide), R.2.2.1]
  refine ⟨fun w => ?_, fun w1 w2 => ?_, fun w1 w2 => ?_⟩
  · subst w
    rw [if_pos (show nI ([] : List wn).length ≤ 0 by decide)]
  · rw [if_neg (show ¬ st.1 12 < 0 by simpa using w1), if_neg (fun w => w2 (c60.mp w))]
    split <;> rfl
  · have l0 : 0 < W.length := List.length_pos_iff.mpr w1
    rw [if_neg (show ¬ nI W.length ≤ 0 from nI_ge (b := W.length) (a := 0) (by omega) (by omega))]
    by_cases q : st.1 12 < 0
    · rw [if_pos q]
    · rw [if_neg q, if_pos (c60.mpr (w2.resolve_left q))]
/-- 112 with a tag -/
theorem rm_112t {k35 : Int32 → mT → Option mT} {x4 : Int32} {c : Nat} (hc : c = 60) : g_parse_112 k35 y1 (nI c) x4 st = (g_tag (if x4 = 0 ∨ y1 = 0 then 0 else 1) st).bind (fun s => k35 y1 s) := by
  unfold g_parse_112 g_parse_132 g_parse_133 g_parse_243
  rw [if_pos (by rw [hc]; rfl)]
  by_cases q1 : x4 = 0
  · rw [if_pos q1, if_pos (Or.inl q1)]
  · rw [if_neg q1]
    by_cases q2 : y1 = 0
    · rw [if_pos q2, if_pos (Or.inr q2)]
    · rw [if_neg q2, if_neg (fun w => w.elim q1 q2)]
theorem rm_112x {k35 : Int32 → mT → Option mT} {x4 : Int32} {c : Nat} (hl : c < 128) (hc : c ≠ 60) (h : x4 = 0 ∨ y1 = 0) : g_parse_112 k35 y1 (nI c) x4 st = g_parse_148 k35 y1 (nI c) st := by
  unfold g_parse_112
  rw [if_neg (show ¬ nI c = 60 from fun w => hc ((nI_eq (b := 60) (by omega) (by decide)).mp w))]
  by_cases q1 : x4 = 0
  · rw [if_pos q1]
  · rw [if_neg q1, if_pos (h.resolve_left q1)]
theorem rm_tag (b : md_buf st0 xs) {p : Nat} {w0 : Int32} (hp : p < xs.length) (h8 : st.1 8 = nI p) (R : mR st0 base st W ov S) (hS8 : base + S.length ≤ 100) : g_tag w0 st = (if a_small (xs.getD (p + 1) 0) = true then (if base + S.length ≤ 5 then g_startTag st else g_error (nI p) st) else if xs.getD (p + 1) 0 = 47 ∧ S ≠ [] then g_endTag st else if xs.getD (p + 1) 0 = 33 ∧ w0 = 0 then g_comment st else g_error (nI (p + 1)) st) := by
  have hl := b.2.2.1
  have bs := R.buf b
  have lc := getD_lt bs.2.2.2 (p + 1)
  have c47 : nI (xs.getD (p + 1) 0) = 47 ↔ xs.getD (p + 1) 0 = 47 := nI_eq (b := 47) (by omega) (by decide)
  have c33 : nI (xs.getD (p + 1) 0) = 33 ↔ xs.getD (p + 1) 0 = 33 := nI_eq (b := 33) (by omega) (by decide)
  have e69 : g_tag_69 w0 (nI (xs.getD (p + 1) 0)) st = (if xs.getD (p + 1) 0 = 33 ∧ w0 = 0 then g_comment st else g_error (nI (p + 1)) st) := by
    unfold g_tag_69 g_tag_86
    rw [h8, nI_1, bind_id, bind_id]
    by_cases q1 : xs.getD (p + 1) 0 = 33
    · rw [if_pos (c33.mpr q1)]
      by_cases q2 : w0 = 0
      · rw [if_pos q2, if_pos ⟨q1, q2⟩]
      · rw [if_neg q2, if_neg (fun w => q2 w.2)]
    · rw [if_neg (fun w => q1 (c33.mp w)), if_neg (fun w => q1 w.1)]
  unfold g_tag
  rw [h8, nI_1, mp_look bs (by omega), Option.bind_some]
  simp only []
  rw [mp_small lc, Option.bind_some]
  simp only [bind_id]
  rw [R.2.2.2.2.2.1, R.2.2.2.2.1, nI_add, h8, e69]
  cases q0 : a_small (xs.getD (p + 1) 0) with
  | true =>
    rw [if_neg (by decide), if_pos rfl]
    by_cases q1 : base + S.length ≤ 5
    · rw [if_pos (show nI (base + S.length) ≤ 5 from nI_le (b := 5) q1 (by decide)), if_pos q1]
    · rw [if_neg (show ¬ nI (base + S.length) ≤ 5 from nI_ge (a := 5) (by omega) (by omega)), if_neg q1]
  | false =>
    rw [if_pos (show (if false = true then (1 : Int32) else 0) = 0 by decide), if_neg (show ¬ false = true by decide)]
    by_cases q1 : xs.getD (p + 1) 0 = 47
    · rw [if_pos (c47.mpr q1)]
      by_cases q2 : S = []
      · subst q2
        rw [if_pos (show nI ([] : List (Nat × Nat × Nat)).length ≤ 0 by decide), if_neg (show ¬ (xs.getD (p + 1) 0 = 47 ∧ ([] : List (Nat × Nat × Nat)) ≠ []) from fun w => w.2 rfl)]
      · have l0 : 0 < S.length := List.length_pos_iff.mpr q2
        rw [if_neg (show ¬ nI S.length ≤ 0 from nI_ge (b := S.length) (a := 0) (by omega) (by omega)), if_pos ⟨q1, q2⟩]
    · rw [if_neg (fun w => q1 (c47.mp w)), if_neg (show ¬ (xs.getD (p + 1) 0 = 47 ∧ S ≠ []) from fun w => q1 w.1)]
/-- one sign of a text -/
theorem rm_189 {k35 : Int32 → mT → Option mT} {v : List Nat} (hW : W.length < 200) {x8 : Int32} {c d p : Nat} (h8 : st.1 8 = nI p) (h12 : st.1 12 = nI W.length) (R : mR st0 base st (W ++ [(2, par, dep, lab, [], v)]) (ov || decide (20 < v.length)) S) (hc : c < 128) (hx : (x8 = 38 ∧ st.1 18 = nI c ∧ st.1 19 = nI d) ∨ (x8 ≠ 38 ∧ x8 = nI c ∧ d = 1)) : ∃ st2, g_parse_189 k35 y1 x8 st = k35 y1 st2 ∧ mR st0 base st2 (W ++ [(2, par, dep, lab, [], v ++ [c])]) (ov || decide (20 < (v ++ [c]).length)) S ∧ st2.1 8 = nI (p + d) ∧ st2.1 12 = nI W.length := by
  obtain ⟨s, a1, a2, a3⟩ := rm_appT (by omega) R c
  refine ⟨mm_F s 8 (nI (p + d)), ?_, a2.F (by omega), fF_s, (fF_n (by decide)).trans ((a3 12 (by decide)).trans h12)⟩
  unfold g_parse_189 g_parse_212 g_parse_240 g_parse_243
  rw [h12]
  rcases hx with ⟨b1, b2, b3⟩ | ⟨b1, b2, b3⟩
  · rw [if_pos b1, b2, show ((nI c).toUInt32 % 65536).toInt32 = nI c from nI_char (by omega), a1, Option.bind_some, if_pos b1, a3 8 (by decide), a3 19 (by decide), h8, b3, nI_add]
    rfl
  · rw [if_neg b1, show g_append (nI W.length) 3 8 x8 st = some s by rw [b2]; exact a1, Option.bind_some, if_neg b1, a3 8 (by decide), h8, b3, nI_1]
    rfl
/-- a text that is being read, or that begins -/
def tS (st0 st : mT) (base : Nat) (W : List wn) (par : Option Nat) (dep : Nat) (lab : List Int32) (ov : Bool) (S : List (Nat × Nat × Nat)) (v : List Nat) : Prop := (st.1 12 = nI W.length ∧ mR st0 base st (W ++ [(2, par, dep, lab, [], v)]) (ov || decide (20 < v.length)) S) ∨ (st.1 12 = -1 ∧ v = [] ∧ mR st0 base st W ov S)
theorem tS.fr {v : List Nat} (t : tS st0 st base W par dep lab ov S v) : mFr st0 st ∧ st.1 9 = -1 := by
  rcases t with ⟨_, t⟩ | ⟨_, _, t⟩
  · exact ⟨t.1, t.2.1⟩
  · exact ⟨t.1, t.2.1⟩
theorem tS.F {v : List Nat} {k : Nat} {u : Int32} (t : tS st0 st base W par dep lab ov S v) (hk : k = 18 ∨ k = 19) : tS st0 (mm_F st k u) base W par dep lab ov S v := by
  rcases t with ⟨t1, t⟩ | ⟨t1, t2, t⟩
  · exact Or.inl ⟨(fF_n (by omega)).trans t1, t.F (by omega)⟩
  · exact Or.inr ⟨(fF_n (by omega)).trans t1, t2, t.F (by omega)⟩
theorem rm_makeT (R : mR st0 base st W ov S) (hl : W.length ≤ 200) (lk : sLk par S) (hS : S.length ≤ 8) (dep : Nat) (lab : List Int32) : ∃ st2, g_make 2 st = some (nI W.length, st2) ∧ mR st0 base st2 (W ++ [(2, par, dep, lab, [], [])]) ov S ∧ (st2.1 8 = st.1 8 ∧ st2.1 18 = st.1 18 ∧ st2.1 19 = st.1 19) ∧ st2.1 12 = nI W.length := by
  obtain ⟨s, a1, a2, a3, a4⟩ := rm_make R hl lk hS 2 dep lab
  change g_make 2 st = _ at a1
  rw [if_pos (by decide)] at a4
  exact ⟨s, a1, a2, ⟨a3 8 (by decide) (by decide), a3 18 (by decide) (by decide), a3 19 (by decide) (by decide)⟩, a4⟩
theorem rm_176 {k35 : Int32 → mT → Option mT} {v : List Nat} (hW : W.length < 200) (lk : sLk par S) (hS : S.length ≤ 8) {x8 : Int32} {c d p : Nat} (h8 : st.1 8 = nI p) (t : tS st0 st base W par dep lab ov S v) (hc : c < 128) (hx : (x8 = 38 ∧ st.1 18 = nI c ∧ st.1 19 = nI d) ∨ (x8 ≠ 38 ∧ x8 = nI c ∧ d = 1)) : ∃ st2, g_parse_176 k35 y1 x8 st = k35 y1 st2 ∧ mR st0 base st2 (W ++ [(2, par, dep, lab, [], v ++ [c])]) (ov || decide (20 < (v ++ [c]).length)) S ∧ st2.1 8 = nI (p + d) ∧ st2.1 12 = nI W.length := by
  unfold g_parse_176
  rcases t with ⟨t1, t⟩ | ⟨t1, t2, t⟩
  · rw [if_pos (by rw [t1]; exact nI_le (Nat.zero_le _) (by omega))]
    exact rm_189 hW h8 t1 t hc hx
  · subst t2
    rw [if_neg (by rw [t1]; decide)]
    obtain ⟨s1, m1, m2, m3, m4⟩ := rm_makeT t (by omega) lk hS dep lab
    rw [m1, Option.bind_some]
    simp only []
    refine rm_189 hW (m3.1.trans h8) m4 (by rw [show decide (20 < ([] : List Nat).length) = false from rfl, Bool.or_false]; exact m2) hc ?_
    rw [m3.2.1, m3.2.2]
    exact hx
end QM10
-- the reference reads: pieces, elements, content
section QM11
variable {st0 st : mT} {xs : List Nat} {base : Nat} {W : List wn} {S : List (Nat × Nat × Nat)} {par : Option Nat} {dep : Nat} {lab : List Int32} {ov : Bool} {y1 : Int32} {Q : mT → Prop}
theorem rm_textL (b : md_buf st0 xs) (hW : W.length < 200) (lk : sLk par S) (hS : S.length ≤ 8) (hO : S = [] → y1 = 0) : ∀ (f fu p : Nat) (v : List Nat) (st : mT), p ≤ xs.length → xs.length < p + f → xs.length + 1 ≤ p + fu → st.1 8 = nI p → tS st0 st base W par dep lab ov S v → (st.1 12 = -1 → p < xs.length ∧ xs.getD p 0 ≠ 60 ∧ (S = [] → W = [])) → (∀ e s, p_val xs 60 f p v = .inl e → mFr st0 s → s.1 9 = nI e → Q s) → (∀ q v1 s fu2, p_val xs 60 f p v = .inr (q, v1) → mR st0 base s (W ++ [(2, par, dep, lab, [], v1)]) (ov || decide (20 < v1.length)) S → s.1 8 = nI q → s.1 12 = nI W.length → (xs.getD q 0 = 60 ∨ xs.length ≤ q) → xs.length + 1 ≤ q + fu2 → mq (g_parse_35 fu2 y1 s) Q) → mq (g_parse_35 fu y1 st) Q := by
  have hl := b.2.2.1
  intro f
  induction f with
  | zero => intro fu p v st h1 h2; omega
  | succ f ih =>
    intro fu p v st hp h1 h2 h8 t h12 hQe hQ
    have es : p_val xs 60 (f + 1) p v = (if xs.length ≤ p then .inr (p, v) else if xs.getD p 0 = 60 ∨ xs.getD p 0 = 60 then .inr (p, v) else if xs.getD p 0 = 38 then (match a_ent xs p with
      | none => .inl p
      | some (c, q) => p_val xs 60 f (q + 1) (v ++ [c])) else p_val xs 60 f (p + 1) (v ++ [xs.getD p 0])) := rfl
    rw [es] at hQe hQ
    have n1 : ¬ nI W.length = -1 := fun w => by
      have : (0 : Int32) ≤ nI W.length := nI_le (Nat.zero_le _) (by omega)
      rw [w] at this
      exact absurd this (by decide)
    by_cases q0 : xs.length ≤ p
    · rw [if_pos q0] at hQ
      rcases t with ⟨t1, t⟩ | ⟨t1, _, _⟩
      · exact hQ p v st fu rfl t h8 t1 (Or.inr q0) h2
      · exact absurd (h12 t1).1 (by omega)
    rw [if_neg q0] at hQ hQe
    by_cases q1 : xs.getD p 0 = 60
    · rw [if_pos (Or.inl q1)] at hQ
      rcases t with ⟨t1, t⟩ | ⟨t1, _, _⟩
      · exact hQ p v st fu rfl t h8 t1 (Or.inl q1) h2
      · exact absurd q1 (h12 t1).2.1
    rw [if_neg (fun w => w.elim q1 q1)] at hQ hQe
    obtain ⟨fu, rfl⟩ : ∃ f, fu = f + 1 := ⟨fu - 1, by omega⟩
    have bs := t.fr.1.buf b
    have h9 := t.fr.2
    have lc := getD_lt bs.2.2.2 p
    have c38 : nI (xs.getD p 0) = 38 ↔ xs.getD p 0 = 38 := nI_eq (b := 38) (by omega) (by decide)
    have e148 : g_parse_35 (fu + 1) y1 st = g_parse_148 (g_parse_35 fu) y1 (nI (xs.getD p 0)) st := by
      by_cases s0 : S = []
      · subst s0
        rw [← rm_112x (x4 := 1) lc q1 (Or.inr (hO rfl))]
        rcases t with ⟨t1, t⟩ | ⟨t1, _, t⟩
        · exact (rm_out b (by omega) h8 t (by rw [len_snoc]; omega)).2.1 (by rw [t1]; exact nI_le (Nat.zero_le _) (by omega)) q1
        · exact (rm_out b (by omega) h8 t (by omega)).1 ((h12 t1).2.2 rfl)
      · rw [← rm_112x (x4 := 0) lc q1 (Or.inl rfl)]
        rcases t with ⟨t1, t⟩ | ⟨t1, _, t⟩
        · exact rm_in b (by omega) h8 t s0 hS
        · exact rm_in b (by omega) h8 t s0 hS
    have go : ∀ (st1 : mT) (x8 : Int32) (c d : Nat), tS st0 st1 base W par dep lab ov S v → st1.1 8 = nI p → c < 128 → ((x8 = 38 ∧ st1.1 18 = nI c ∧ st1.1 19 = nI d) ∨ (x8 ≠ 38 ∧ x8 = nI c ∧ d = 1)) → 1 ≤ d → p + d ≤ xs.length → (∀ e s, p_val xs 60 f (p + d) (v ++ [c]) = .inl e → mFr st0 s → s.1 9 = nI e → Q s) → (∀ q v1 s fu2, p_val xs 60 f (p + d) (v ++ [c]) = .inr (q, v1) → mR st0 base s (W ++ [(2, par, dep, lab, [], v1)]) (ov || decide (20 < v1.length)) S → s.1 8 = nI q → s.1 12 = nI W.length → (xs.getD q 0 = 60 ∨ xs.length ≤ q) → xs.length + 1 ≤ q + fu2 → mq (g_parse_35 fu2 y1 s) Q) → mq (g_parse_176 (g_parse_35 fu) y1 x8 st1) Q := fun st1 x8 c d t1 g8 hc hx d1 d2 k1 k2 => by
      obtain ⟨s2, a1, a2, a3, a4⟩ := rm_176 (k35 := g_parse_35 fu) (y1 := y1) hW lk hS g8 t1 hc hx
      rw [a1]
      exact ih fu (p + d) (v ++ [c]) s2 d2 (by omega) (by omega) a3 (Or.inl ⟨a4, a2⟩) (fun w => absurd (a4.symm.trans w) n1) k1 k2
    rw [e148]
    unfold g_parse_148
    by_cases q4 : xs.getD p 0 = 38
    · rw [if_pos (c38.mpr q4), h8, rm_ent bs (by omega) q4, Option.bind_some]
      simp only []
      rw [if_pos q4] at hQe hQ
      have t1 : tS st0 (mm_F (mm_F st 18 (entR xs p).2.1) 19 (entR xs p).2.2) base W par dep lab ov S v := (t.F (by omega)).F (by omega)
      have f8 : (mm_F (mm_F st 18 (entR xs p).2.1) 19 (entR xs p).2.2).1 8 = nI p := (fF_n (by decide)).trans ((fF_n (by decide)).trans h8)
      have f18 : (mm_F (mm_F st 18 (entR xs p).2.1) 19 (entR xs p).2.2).1 18 = (entR xs p).2.1 := (fF_n (by decide)).trans fF_s
      have f19 : (mm_F (mm_F st 18 (entR xs p).2.1) 19 (entR xs p).2.2).1 19 = (entR xs p).2.2 := fF_s
      generalize hs1 : mm_F (mm_F st 18 (entR xs p).2.1) 19 (entR xs p).2.2 = st1 at t1 f8 f18 f19 ⊢
      cases e : a_ent xs p with
      | none =>
        rw [e] at hQe
        rw [show (entR xs p).1 = 0 by unfold entR; rw [e], if_pos rfl]
        unfold g_parse_165 g_parse_243
        rw [f8, rm_err (t1.fr.1.buf b) t1.fr.2 hp, Option.bind_some]
        exact rm_stopQ (e := p) (by omega) (by omega) fF_s (hQe p _ rfl (t1.fr.1.F (by unfold mfld; omega)) fF_s)
      | some cq =>
        obtain ⟨c, q⟩ := cq
        have ez := a_ent_some e
        rw [e] at hQe hQ
        rw [show (entR xs p).1 = 1 by unfold entR; rw [e], if_neg (by decide)]
        have hd : p + (q + 1 - p) = q + 1 := by omega
        refine go st1 (nI (xs.getD p 0)) c (q + 1 - p) t1 f8 ez.2.2 (Or.inl ⟨c38.mpr q4, f18.trans (by unfold entR; rw [e]), f19.trans (by unfold entR; rw [e])⟩) (by omega) (by omega) ?_ ?_
        · rw [hd]; exact hQe
        · rw [hd]; exact hQ
    · rw [if_neg (fun w => q4 (c38.mp w))]
      rw [if_neg q4] at hQe hQ
      exact go st (nI (xs.getD p 0)) (xs.getD p 0) 1 t h8 lc (Or.inr ⟨fun w => q4 (c38.mp w), rfl, rfl⟩) (by omega) (by omega) hQe hQ
theorem sLk.len (lk : sLk par S) : (S = [] ∧ par = none) ∨ (S ≠ [] ∧ par ≠ none) := by
  rcases lk with h | ⟨S1, a, h1, h2⟩
  · exact Or.inl h
  · exact Or.inr ⟨by rw [h1]; simp, by rw [h2]; simp⟩
/-- a tag's turn -/
theorem rm_tagT (b : md_buf st0 xs) {fu p : Nat} (hp : p < xs.length) (h8 : st.1 8 = nI p) (R : mR st0 base st W ov S) (hW : W.length ≤ 200) (hS8 : S.length ≤ 8) (hSW : S = [] → W = []) (g0 : xs.getD p 0 = 60) (hb : base + S.length ≤ 100) : ∃ w0 : Int32, (S ≠ [] ∨ y1 = 0 → w0 = 0) ∧ g_parse_35 (fu + 1) y1 st = (if a_small (xs.getD (p + 1) 0) = true then (if base + S.length ≤ 5 then g_startTag st else g_error (nI p) st) else if xs.getD (p + 1) 0 = 47 ∧ S ≠ [] then g_endTag st else if xs.getD (p + 1) 0 = 33 ∧ w0 = 0 then g_comment st else g_error (nI (p + 1)) st).bind (fun s => g_parse_35 fu y1 s) := by
  by_cases s0 : S = []
  · subst s0
    refine ⟨if (1 : Int32) = 0 ∨ y1 = 0 then 0 else 1, fun w => ?_, ?_⟩
    · rw [if_pos (Or.inr (w.resolve_left (fun k => k rfl)))]
    · rw [(rm_out b hp h8 R hW).1 (hSW rfl), rm_112t g0, rm_tag b hp h8 R hb]
  · refine ⟨if (0 : Int32) = 0 ∨ y1 = 0 then 0 else 1, fun w => ?_, ?_⟩
    · rw [if_pos (Or.inl rfl)]
    · rw [rm_in b hp h8 R s0 hS8, rm_112t g0, rm_tag b hp h8 R hb]
theorem rm_piece (b : md_buf st0 xs) {PE : Option Nat → Nat → List Int32 → Nat → List wn → Bool → pR} {N : Nat} (hE : mImp xs st0 base y1 Q PE (fun p dep => xs.getD p 0 = 60 ∧ a_small (xs.getD (p + 1) 0) = true ∧ dep ≤ 5 ∧ 6 ≤ N + dep)) : mImp xs st0 base y1 Q (p_piece PE xs) (fun _ dep => 1 ≤ dep ∧ dep ≤ 6 ∧ 6 ≤ N + dep) := by
  have hl := b.2.2.1
  intro par dep lab p W ov S st fu hp hG hW P lk hd hO hN hf hQe hQ
  obtain ⟨R, h8, h12⟩ := P
  have h9 : st.1 9 = -1 := R.2.1
  have bs := R.buf b
  by_cases g0 : xs.getD p 0 = 60
  · obtain ⟨fu, rfl⟩ : ∃ f, fu = f + 1 := ⟨fu - 1, by omega⟩
    obtain ⟨w0, k1, k2⟩ := rm_tagT (y1 := y1) (fu := fu) b hp h8 R (by omega) (by omega) (fun w => (hO w).1) g0 (by omega)
    have bad : ∀ k, k ≤ xs.length → (∀ s, mFr st0 s → s.1 9 = nI k → Q s) → mq ((g_error (nI k) st).bind (fun s => g_parse_35 fu y1 s)) Q := fun k hk hq => by
      rw [rm_err bs h9 hk, Option.bind_some]
      exact rm_stopQ (e := k) (by omega) (by omega) fF_s (hq _ (R.1.F (by unfold mfld; omega)) fF_s)
    by_cases g1 : xs.getD (p + 1) 0 = 33
    · have ns : a_small (xs.getD (p + 1) 0) = false := by rw [g1]; decide
      have e : p_piece PE xs par dep lab p W ov = p_com xs par dep lab p W ov := by unfold p_piece; rw [if_neg (fun w => w g0), if_pos g1]
      rw [e] at hQe hQ
      have w00 : w0 = 0 := by
        refine k1 ?_
        by_cases s0 : S = []
        · rcases (hO s0).2 with w | ⟨_, w⟩
          · exact Or.inr w
          · rw [ns] at w; cases w
        · exact Or.inl s0
      rw [k2, if_neg (by rw [ns]; decide), if_neg (by rw [g1]; exact fun w => absurd w.1 (by decide)), if_pos ⟨g1, w00⟩]
      have C := rm_com b (by omega) (by omega) lk g1 h8 R dep lab
      have L := p_com_le (xs := xs) (par := par) (dep := dep) (lab := lab) (W := W) (ov := ov) g1
      refine mq_bind ?_
      cases ec : p_com xs par dep lab p W ov with
      | inl e1 =>
        obtain ⟨s, a1, a2, a3⟩ := C.1 e1 ec
        refine ⟨s, a1, ?_⟩
        have := (L.1 e1 ec).2
        exact rm_stopQ (e := e1) (by omega) (by omega) a3 (hQe e1 s ec a2 a3)
      | inr r =>
        obtain ⟨q, W1, ov1⟩ := r
        obtain ⟨s, a1, a2, a3, a4⟩ := C.2 q W1 ov1 ec
        have := L.2 q W1 ov1 ec
        exact ⟨s, a1, hQ q W1 ov1 s fu ec ⟨a2, a3, Or.inl a4⟩ (by omega)⟩
    · cases sm : a_small (xs.getD (p + 1) 0) with
      | false =>
        have e : p_piece PE xs par dep lab p W ov = .inl (p + 1) := by unfold p_piece; rw [if_neg (fun w => w g0), if_neg g1, if_pos sm]
        rw [e] at hQe
        rw [k2, if_neg (by rw [sm]; decide), if_neg (fun w => hN w.2 ⟨g0, w.1⟩), if_neg (fun w => g1 w.1)]
        exact bad (p + 1) (by omega) (fun s => hQe (p + 1) s rfl)
      | true =>
        by_cases d5 : 5 < dep
        · have e : p_piece PE xs par dep lab p W ov = .inl p := by unfold p_piece; rw [if_neg (fun w => w g0), if_neg g1, if_neg (by rw [sm]; decide), if_pos d5]
          rw [e] at hQe
          rw [k2, if_pos sm, if_neg (by omega)]
          exact bad p (by omega) (fun s => hQe p s rfl)
        · have e : p_piece PE xs par dep lab p W ov = PE par dep lab p W ov := by unfold p_piece; rw [if_neg (fun w => w g0), if_neg g1, if_neg (by rw [sm]; decide), if_neg d5]
          rw [e] at hQe hQ
          exact hE par dep lab p W ov S st (fu + 1) hp ⟨g0, sm, by omega, hG.2.2⟩ hW ⟨R, h8, h12⟩ lk hd hO hN hf hQe hQ
  · have e : p_piece PE xs par dep lab p W ov = p_text xs par dep lab p W ov := by unfold p_piece; rw [if_pos g0]
    rw [e] at hQe hQ
    have t12 : st.1 12 = -1 := h12.resolve_right (fun w => w.2.elim g0 (fun k => by omega))
    refine rm_textL (par := par) (dep := dep) (lab := lab) (ov := ov) (W := W) (S := S) b (by omega) lk (by omega) (fun s0 => (hO s0).2.resolve_right (fun w => g0 w.1)) 200 fu p [] st (by omega) (by omega) hf h8 (Or.inr ⟨t12, rfl, R⟩) (fun _ => ⟨hp, g0, fun s0 => (hO s0).1⟩) (fun e s ev m1 m2 => hQe e s (by unfold p_text; rw [ev]) m1 m2) (fun q v1 s fu2 ev m1 m2 m3 m4 m5 => hQ q _ _ s fu2 (by unfold p_text; rw [ev]) ⟨m1, m2, Or.inr ⟨⟨W.length, by omega, m3⟩, m4⟩⟩ m5)
def mImpC (xs : List Nat) (st0 : mT) (base : Nat) (y1 : Int32) (Q : mT → Prop) (f : Nat → Nat → List Int32 → Nat → List wn → Bool → pR) (N : Nat) : Prop := ∀ j dep lab p W ov S fr n st fu, p ≤ xs.length → (1 ≤ dep ∧ dep ≤ 6 ∧ 6 ≤ N + dep) → W.length ≤ p → mP xs st0 base p st W ov (S ++ [(j, fr, n)]) → dep = base + S.length + 1 → xs.length + 1 ≤ p + fu → (∀ e s, f j dep lab p W ov = .inl e → mFr st0 s → s.1 9 = nI e → Q s) → (∀ q W1 ov1 s fu2, f j dep lab p W ov = .inr (q, W1, ov1) → mP xs st0 base q s W1 ov1 (S ++ [(j, fr, n)]) → xs.getD q 0 = 60 ∧ xs.getD (q + 1) 0 = 47 → W1.length ≤ q → xs.length + 1 ≤ q + fu2 → mq (g_parse_35 fu2 y1 s) Q) → mq (g_parse_35 fu y1 st) Q
theorem rm_cont (b : md_buf st0 xs) {PP : Option Nat → Nat → List Int32 → Nat → List wn → Bool → pR} {N : Nat} (hP : mImp xs st0 base y1 Q PP (fun _ dep => 1 ≤ dep ∧ dep ≤ 6 ∧ 6 ≤ N + dep)) (ok : pOK xs PP (fun _ dep => 1 ≤ dep ∧ dep ≤ 6 ∧ 6 ≤ N + dep)) : ∀ (f k : Nat), ∀ j dep lab p W ov S fr n st fu, p ≤ xs.length → xs.length < p + f → (1 ≤ dep ∧ dep ≤ 6 ∧ 6 ≤ N + dep) → W.length ≤ p → mP xs st0 base p st W ov (S ++ [(j, fr, n)]) → dep = base + S.length + 1 → xs.length + 1 ≤ p + fu → (∀ e s, p_cont PP xs f k j dep lab p W ov = .inl e → mFr st0 s → s.1 9 = nI e → Q s) → (∀ q W1 ov1 s fu2, p_cont PP xs f k j dep lab p W ov = .inr (q, W1, ov1) → mP xs st0 base q s W1 ov1 (S ++ [(j, fr, n)]) → xs.getD q 0 = 60 ∧ xs.getD (q + 1) 0 = 47 → W1.length ≤ q → xs.length + 1 ≤ q + fu2 → mq (g_parse_35 fu2 y1 s) Q) → mq (g_parse_35 fu y1 st) Q := by
  have hl := b.2.2.1
  intro f
  induction f with
  | zero => intro k j dep lab p W ov S fr n st fu h1 h2; omega
  | succ f ih =>
    intro k j dep lab p W ov S fr n st fu hp h2 hG hW P hd hf hQe hQ
    have es : p_cont PP xs (f + 1) k j dep lab p W ov = (if p = xs.length then .inl p else if xs.getD p 0 = 60 ∧ xs.getD (p + 1) 0 = 47 then .inr (p, W, ov) else match PP (some j) dep (lab ++ [2 * nI k + 1]) p W ov with
      | .inl e => .inl e
      | .inr (q, W1, ov1) => p_cont PP xs f (k + 1) j dep lab q W1 ov1) := rfl
    rw [es] at hQe hQ
    have lS : (S ++ [(j, fr, n)]).length = S.length + 1 := len_snoc
    by_cases q0 : p = xs.length
    · rw [if_pos q0] at hQe
      obtain ⟨R, h8, h12⟩ := P
      have bs := R.buf b
      have h9 : st.1 9 = -1 := R.2.1
      obtain ⟨fu, rfl⟩ : ∃ f, fu = f + 1 := ⟨fu - 1, by omega⟩
      unfold g_parse_35 g_parse_246 g_parse_260
      rw [if_neg (show ¬ (0 : Int32) ≤ st.1 9 by rw [h9]; decide), bs.1, h8, if_pos (nI_le (by omega) (by omega)), if_pos (show 0 < st.1 14 by rw [R.2.2.2.2.2.1, lS]; exact nI_lt (a := 0) (by omega) (by omega)), rm_err bs h9 (Nat.le_refl _), Option.bind_some]
      exact mq_some (hQe p _ rfl (R.1.F (by unfold mfld; omega)) (by rw [q0]; exact fF_s))
    rw [if_neg q0] at hQe hQ
    by_cases q1 : xs.getD p 0 = 60 ∧ xs.getD (p + 1) 0 = 47
    · rw [if_pos q1] at hQ
      exact hQ p W ov st fu rfl P q1 hW hf
    rw [if_neg q1] at hQe hQ
    refine hP (some j) dep (lab ++ [2 * nI k + 1]) p W ov (S ++ [(j, fr, n)]) st fu (by omega) hG hW P (Or.inr ⟨S, _, rfl, rfl⟩) (by rw [lS]; omega) (fun w => absurd w (by simp)) (fun _ => q1) hf (fun e s ep m1 m2 => hQe e s (by rw [ep]) m1 m2) (fun q W1 ov1 s fu2 ep P2 hf2 => ?_)
    rw [ep] at hQe hQ
    obtain ⟨l1, l2, W2, l3, l4⟩ := (ok (some j) dep (lab ++ [2 * nI k + 1]) p W ov (by omega) hG).2 q W1 ov1 ep
    exact ih (k + 1) j dep lab q W1 ov1 S fr n s fu2 l2 (by omega) hG (by rw [l3, List.length_append]; omega) P2 hd hf2 hQe hQ
theorem p_st_le {p : Nat} (hp : p + 1 ≤ xs.length) : (∀ e, p_st xs p ov = .inl e → e ≤ xs.length) ∧ ∀ q att ov1 cl, p_st xs p ov = .inr (q, att, ov1, cl) → p + 2 ≤ q ∧ q ≤ xs.length := by
  have lp := a_let_le (xs := xs) (p := p + 1) hp
  have L := p_atts_le (xs := xs) 130 (p + 1 + a_let xs (p + 1)) [] ov lp
  unfold p_st
  cases e : p_atts xs 130 (p + 1 + a_let xs (p + 1)) [] ov with
  | inl e1 =>
    refine ⟨fun e2 h => ?_, fun q att ov1 cl h => by cases h⟩
    cases h
    exact (L.1 e1 e).2
  | inr r =>
    obtain ⟨q, att, ov1⟩ := r
    have l := L.2 q att ov1 e
    simp only []
    by_cases a1 : xs.getD q 0 = 47
    · have := getD_pos a1 (by decide)
      rw [if_pos a1]
      by_cases a2 : xs.getD (q + 1) 0 = 62
      · have := getD_pos a2 (by decide)
        rw [if_pos a2]
        refine ⟨fun e2 h => (by cases h), fun q1 att1 ov2 cl h => ?_⟩
        cases h
        omega
      · rw [if_neg a2]
        refine ⟨fun e2 h => ?_, fun q att ov1 cl h => by cases h⟩
        cases h
        omega
    · rw [if_neg a1]
      by_cases a2 : xs.getD q 0 = 62
      · have := getD_pos a2 (by decide)
        rw [if_neg (fun w => w a2)]
        refine ⟨fun e2 h => (by cases h), fun q1 att1 ov2 cl h => ?_⟩
        cases h
        omega
      · rw [if_pos a2]
        refine ⟨fun e2 h => ?_, fun q att ov1 cl h => by cases h⟩
        cases h
        exact l.2
theorem rm_elem (b : md_buf st0 xs) (hx : ∀ c ∈ xs, c ≠ 0) {PC : Nat → Nat → List Int32 → Nat → List wn → Bool → pR} {N : Nat} (hC : mImpC xs st0 base y1 Q PC N) : mImp xs st0 base y1 Q (p_elem PC xs) (fun p dep => xs.getD p 0 = 60 ∧ a_small (xs.getD (p + 1) 0) = true ∧ dep ≤ 5 ∧ 6 ≤ N + 1 + dep) := by
  have hl := b.2.2.1
  intro par dep lab p W ov S st fu hp hG hW P lk hd hO hN hf hQe hQ
  obtain ⟨R, h8, h12⟩ := P
  obtain ⟨g0, sm, d5, hN6⟩ := hG
  obtain ⟨fu, rfl⟩ : ∃ f, fu = f + 1 := ⟨fu - 1, by omega⟩
  obtain ⟨w0, k1, k2⟩ := rm_tagT (y1 := y1) (fu := fu) b hp h8 R (by omega) (by omega) (fun w => (hO w).1) g0 (by omega)
  rw [k2, if_pos sm, if_pos (by omega)]
  have A := rm_start b hx (W := W) (by omega) (by omega) lk (p := p) (by omega) h8 R dep lab
  have L := p_st_le (xs := xs) (ov := ov) (p := p) (by omega)
  have l6 := (a_let_small (xs := xs) (p := p + 1))
  have lp := a_let_le (xs := xs) (p := p + 1) (by omega)
  rw [p_elem_st] at hQe hQ
  refine mq_bind ?_
  cases e : p_st xs p ov with
  | inl e1 =>
    rw [e] at hQe
    obtain ⟨s, a1, a2, a3⟩ := A.1 e1 e
    have := L.1 e1 e
    exact ⟨s, a1, rm_stopQ (e := e1) (by omega) (by omega) a3 (hQe e1 s rfl a2 a3)⟩
  | inr r =>
    obtain ⟨q, att, ov1, cl⟩ := r
    obtain ⟨s, a1, a2, a3, a4⟩ := A.2 q att ov1 cl e
    have lq := L.2 q att ov1 cl e
    rw [e] at hQe hQ
    simp only [] at hQe hQ
    refine ⟨s, a1, ?_⟩
    cases cl with
    | true =>
      rw [if_pos rfl] at hQ a2
      exact hQ q _ _ s fu rfl ⟨a2, a3, Or.inl a4⟩ (by omega)
    | false =>
      rw [if_neg (by decide)] at hQe hQ a2
      refine hC W.length (dep + 1) lab q (W ++ [(1, par, dep, lab, att, (xs.drop (p + 1)).take (a_let xs (p + 1)))]) ov1 S (p + 1) (a_let xs (p + 1)) s fu lq.2 ⟨by omega, by omega, by omega⟩ (by rw [len_snoc]; omega) ⟨a2, a3, Or.inl a4⟩ (by omega) (by omega) (fun e2 s2 ep m1 m2 => hQe e2 s2 (by rw [ep]) m1 m2) (fun q2 W2 ov2 s2 fu2 ep P2 g2 hW2 hf2 => ?_)
      rw [ep] at hQe hQ
      simp only [] at hQe hQ
      obtain ⟨R2, h82, _⟩ := P2
      have hq2 := getD_pos g2.2 (by decide)
      obtain ⟨fu2, rfl⟩ : ∃ f, fu2 = f + 1 := ⟨fu2 - 1, by omega⟩
      have lS : (S ++ [(W.length, p + 1, a_let xs (p + 1))]).length = S.length + 1 := len_snoc
      obtain ⟨w1, _, k3⟩ := rm_tagT (y1 := y1) (fu := fu2) b (by omega) h82 R2 (by omega) (by rw [lS]; omega) (fun w => absurd w (by simp)) g2.1 (by rw [lS]; omega)
      rw [k3, if_neg (by rw [g2.2]; decide), if_pos ⟨g2.2, by simp⟩]
      have E := rm_end b (by omega) lp (fun j hj => a_small_ne (l6.2.1 j hj)) (by omega) h82 R2
      have LE := p_end_le (xs := xs) ((xs.drop (p + 1)).take (a_let xs (p + 1))) (q2 + 2) (fun c hc => a_small_ne (a_name_ne c hc)) (by omega)
      refine mq_bind ?_
      cases ee : p_end xs ((xs.drop (p + 1)).take (a_let xs (p + 1))) (q2 + 2) with
      | inl e3 =>
        rw [ee] at hQe
        obtain ⟨s3, c1, c2, c3⟩ := E.1 e3 ee
        have := (LE.1 e3 ee).2
        exact ⟨s3, c1, rm_stopQ (e := e3) (by omega) (by omega) c3 (hQe e3 s3 rfl c2 c3)⟩
      | inr q3 =>
        rw [ee] at hQ
        obtain ⟨s3, c1, c2, c3, c4⟩ := E.2 q3 ee
        have := LE.2 q3 ee
        exact ⟨s3, c1, hQ q3 W2 ov2 s3 fu2 rfl ⟨c2, c3, Or.inl c4⟩ (by omega)⟩
theorem rm_F (b : md_buf st0 xs) (hx : ∀ c ∈ xs, c ≠ 0) : ∀ N, mImp xs st0 base y1 Q (p_F xs N) (fun p dep => xs.getD p 0 = 60 ∧ a_small (xs.getD (p + 1) 0) = true ∧ dep ≤ 5 ∧ 6 ≤ N + dep) := by
  intro N
  induction N with
  | zero => intro par dep lab p W ov S st fu hp hG; omega
  | succ N ih =>
    have hl := b.2.2.1
    have hC : mImpC xs st0 base y1 Q (p_cont (p_piece (p_F xs N) xs) xs 130 0) N := fun j dep lab p W ov S fr n st fu h1 h2 h3 h4 h5 h6 h7 h8 => rm_cont b (rm_piece b ih) (p_piece_le (p_F_le N)) 130 0 j dep lab p W ov S fr n st fu h1 (by omega) h2 h3 h4 h5 h6 h7 h8
    have := rm_elem b hx hC
    exact this
end QM11
-- the reference reads: a document, one node
/-- what stands in the reference behind a reading -/
def rdG (st0 : mT) (r : Nat ⊕ (List wn × Bool)) (s : mT) : Prop := mFr st0 s ∧ match r with
  | .inl e => s.1 9 = nI e
  | .inr (W, ov) => s.1 9 = -1 ∧ s.1 10 = nI W.length ∧ ovR (s.1 11) ov W.length ∧ ∀ i, i < W.length → i < 40 → wRow (s.2.1 2) i (W.getD i wn0)
theorem p_elem_ne {PC : Nat → Nat → List Int32 → Nat → List wn → Bool → pR} {xs : List Nat} {par : Option Nat} {dep : Nat} {lab : List Int32} {p q : Nat} {W W1 : List wn} {ov ov1 : Bool} (hC : ∀ j dep lab p W ov q W1 ov1, W ≠ [] → PC j dep lab p W ov = .inr (q, W1, ov1) → W1 ≠ []) (e : p_elem PC xs par dep lab p W ov = .inr (q, W1, ov1)) : W1 ≠ [] := by
  rw [p_elem_st] at e
  cases es : p_st xs p ov with
  | inl e1 => rw [es] at e; cases e
  | inr r =>
    obtain ⟨q0, att, ov0, cl⟩ := r
    rw [es] at e
    simp only [] at e
    cases cl with
    | true =>
      rw [if_pos rfl] at e
      cases e
      simp
    | false =>
      rw [if_neg (by decide)] at e
      cases ep : PC W.length (dep + 1) lab q0 (W ++ [(1, par, dep, lab, att, (xs.drop (p + 1)).take (a_let xs (p + 1)))]) ov0 with
      | inl e1 => rw [ep] at e; cases e
      | inr r2 =>
        obtain ⟨q2, W2, ov2⟩ := r2
        rw [ep] at e
        simp only [] at e
        cases ee : p_end xs ((xs.drop (p + 1)).take (a_let xs (p + 1))) (q2 + 2) with
        | inl e1 => rw [ee] at e; cases e
        | inr q3 =>
          rw [ee] at e
          cases e
          exact hC _ _ _ _ _ _ _ _ _ (by simp) ep
theorem p_piece_ne' {PE : Option Nat → Nat → List Int32 → Nat → List wn → Bool → pR} {xs : List Nat} {par : Option Nat} {dep : Nat} {lab : List Int32} {p q : Nat} {W W1 : List wn} {ov ov1 : Bool} (hE : ∀ par dep lab p W ov q W1 ov1, PE par dep lab p W ov = .inr (q, W1, ov1) → W1 ≠ []) (e : p_piece PE xs par dep lab p W ov = .inr (q, W1, ov1)) : W1 ≠ [] := by
  unfold p_piece at e
  split at e
  · unfold p_text at e
    split at e
    · cases e
    · cases e
      simp
  · split at e
    · unfold p_com at e
      split at e
      · cases e
      · split at e
        · cases e
        · split at e
          · cases e
          · split at e
            · cases e
            · split at e
              · cases e
              · cases e
                simp
    · split at e
      · cases e
      · split at e
        · cases e
        · exact hE _ _ _ _ _ _ _ _ _ e
theorem p_cont_ne {PP : Option Nat → Nat → List Int32 → Nat → List wn → Bool → pR} {xs : List Nat} (hP : ∀ par dep lab p W ov q W1 ov1, PP par dep lab p W ov = .inr (q, W1, ov1) → W1 ≠ []) : ∀ (f k j dep : Nat) (lab : List Int32) (p : Nat) (W : List wn) (ov : Bool) (q : Nat) (W1 : List wn) (ov1 : Bool), W ≠ [] → p_cont PP xs f k j dep lab p W ov = .inr (q, W1, ov1) → W1 ≠ [] := by
  intro f
  induction f with
  | zero => intro k j dep lab p W ov q W1 ov1 _ e; cases e
  | succ f ih =>
    intro k j dep lab p W ov q W1 ov1 hW e
    unfold p_cont at e
    split at e
    · cases e
    · split at e
      · cases e
        exact hW
      · split at e
        · cases e
        · rename_i q2 W2 ov2 ep
          exact ih _ _ _ _ _ _ _ _ _ _ (hP _ _ _ _ _ _ _ _ _ ep) e
theorem p_F_ne0 {xs : List Nat} : ∀ (N : Nat) (par : Option Nat) (dep : Nat) (lab : List Int32) (p : Nat) (W : List wn) (ov : Bool) (q : Nat) (W1 : List wn) (ov1 : Bool), p_F xs N par dep lab p W ov = .inr (q, W1, ov1) → W1 ≠ [] := by
  intro N
  induction N with
  | zero => intro par dep lab p W ov q W1 ov1 e; cases e
  | succ N ih =>
    intro par dep lab p W ov q W1 ov1 e
    exact p_elem_ne (fun j dep lab p W ov q W1 ov1 hW e => p_cont_ne (fun par dep lab p W ov q W1 ov1 e => p_piece_ne' ih e) 130 0 j dep lab p W ov q W1 ov1 hW e) e
section QM12
variable {st0 : mT} {xs : List Nat} {base : Nat} {y1 : Int32}
theorem rm_fin (b : md_buf st0 xs) {r : pR} {q : Nat} {W : List wn} {ov : Bool} {s : mT} {fu : Nat} (er : r = .inr (q, W, ov)) (hq : q ≤ xs.length) (hW : W ≠ []) (hWl : W.length ≤ 200) (P : mP xs st0 base q s W ov []) (hf : xs.length + 1 ≤ q + fu) : mq (g_parse_35 fu y1 s) (rdG st0 (p_fin xs r)) := by
  have hl := b.2.2.1
  obtain ⟨R, h8, h12⟩ := P
  have bs := R.buf b
  have h9 : s.1 9 = -1 := R.2.1
  have l0 : 0 < W.length := List.length_pos_iff.mpr hW
  obtain ⟨fu, rfl⟩ : ∃ f, fu = f + 1 := ⟨fu - 1, by omega⟩
  subst er
  unfold p_fin
  simp only []
  by_cases e : q = xs.length
  · rw [if_pos e]
    unfold g_parse_35 g_parse_246
    rw [if_neg (by rw [h9]; decide), bs.1, h8, if_pos (nI_le (by omega) (by omega)), if_neg (show ¬ 0 < s.1 14 by rw [R.2.2.2.2.2.1]; decide), if_neg (show ¬ s.1 10 = 0 by rw [R.2.2.1]; exact fun w => absurd ((nI_eq (b := 0) (by omega) (by decide)).mp w) (by omega))]
    exact mq_some ⟨R.1, h9, R.2.2.1, R.2.2.2.1, R.2.2.2.2.2.2.2⟩
  · rw [if_neg e, (rm_out b (by omega) h8 R hWl).2.2 hW (h12.elim (fun w => Or.inl (by rw [w]; decide)) (fun w => Or.inr (w.2.resolve_right (by omega))))]
    unfold g_parse_101 g_parse_243
    rw [h8, rm_err bs h9 hq, Option.bind_some]
    exact rm_stopQ (e := q) (by omega) (by omega) fF_s ⟨R.1.F (by unfold mfld; omega), fF_s⟩
/-- the state in which reading begins -/
def ms0 (st : mT) (base : Nat) : mT := mm_F (mm_F (mm_F (mm_F (mm_F (mm_F (mm_F st 8 0) 9 (-1)) 10 0) 11 0) 12 (-1)) 13 (nI base)) 14 0
theorem ms0_R (base : Nat) : mR st0 base (ms0 st0 base) [] false [] := by
  have m : mFr st0 (ms0 st0 base) := ((((((mFr.refl.F (by unfold mfld; omega)).F (by unfold mfld; omega)).F (by unfold mfld; omega)).F (by unfold mfld; omega)).F (by unfold mfld; omega)).F (by unfold mfld; omega)).F (by unfold mfld; omega)
  refine ⟨m, rfl, rfl, ⟨Or.inl rfl, fun w => absurd (show (0 : Int32) = 1 from w) (by decide), fun w => absurd w (by decide)⟩, rfl, rfl, fun i hi => absurd hi (by simp), fun i hi => absurd hi (by simp)⟩
theorem ms0_P (base : Nat) : mP xs st0 base 0 (ms0 st0 base) [] false [] := ⟨ms0_R base, rfl, Or.inl rfl⟩
theorem rm_parse0 : g_parse y1 (nI base) st0 = g_parse_35 mF y1 (ms0 st0 base) := by
  unfold g_parse ms0
  simp only [mm_lt]
theorem rm_empty (b : md_buf st0 xs) (h0 : xs.length = 0) : mq (g_parse y1 (nI base) st0) (rdG st0 (.inl 0)) := by
  rw [rm_parse0]
  have R := ms0_R (st0 := st0) base
  have bs := R.buf b
  have e8 : (ms0 st0 base).1 8 = nI 0 := rfl
  rw [show mF = 5999 + 1 from rfl]
  unfold g_parse_35 g_parse_246 g_parse_260
  rw [if_neg (show ¬ (0 : Int32) ≤ (ms0 st0 base).1 9 from (by decide : ¬ (0 : Int32) ≤ -1)), bs.1, e8, if_pos (nI_le (by omega) (by omega)), if_neg (show ¬ 0 < (ms0 st0 base).1 14 from (by decide : ¬ (0 : Int32) < 0)), if_pos (show (ms0 st0 base).1 10 = 0 from rfl), rm_err bs R.2.1 (Nat.le_refl _), Option.bind_some, h0]
  exact mq_some ⟨R.1.F (by unfold mfld; omega), fF_s⟩
theorem rm_doc (b : md_buf st0 xs) (hx : ∀ c ∈ xs, c ≠ 0) : mq (g_parse 1 0 st0) (rdG st0 (p_doc xs)) := by
  have hl := b.2.2.1
  have g00 : xs.length = 0 → xs.getD 0 0 = 0 := fun w => by rw [List.getD_eq_getElem?_getD, List.getElem?_eq_none (by omega)]; rfl
  unfold p_doc
  by_cases h0 : xs.length = 0
  · rw [if_pos (by rw [g00 h0]; decide)]
    exact rm_empty (base := 0) b h0
  have R := ms0_R (st0 := st0) 0
  have P := ms0_P (st0 := st0) (xs := xs) 0
  have bs := R.buf b
  have lc := getD_lt bs.2.2.2 0
  rw [show g_parse 1 0 st0 = g_parse_35 mF 1 (ms0 st0 0) from rm_parse0 (base := 0)]
  have bad : ∀ k, k ≤ xs.length → mq ((g_error (nI k) (ms0 st0 0)).bind (fun s => g_parse_35 5999 1 s)) (rdG st0 (.inl k)) := fun k hk => by
    rw [rm_err bs R.2.1 hk, Option.bind_some]
    exact rm_stopQ (e := k) (by omega) (by omega) fF_s ⟨R.1.F (by unfold mfld; omega), fF_s⟩
  by_cases g0 : xs.getD 0 0 = 60
  · rw [if_neg (fun w => w g0)]
    cases sm : a_small (xs.getD 1 0) with
    | false =>
      rw [if_pos rfl, show mF = 5999 + 1 from rfl, (rm_out b (by omega) P.2.1 R (by simp)).1 rfl, rm_112t g0, rm_tag b (by omega) P.2.1 R (by simp), if_neg (by rw [sm]; decide), if_neg (fun w => w.2 rfl), if_neg (fun w => absurd w.2 (by decide))]
      exact bad 1 (by omega)
    | true =>
      rw [if_neg (by decide)]
      refine rm_F (y1 := 1) b hx 8 none 0 [1] 0 [] false [] (ms0 st0 0) mF (by omega) ⟨g0, sm, by omega, by omega⟩ (Nat.le_refl _) P (Or.inl ⟨rfl, rfl⟩) rfl (fun _ => ⟨rfl, Or.inr ⟨g0, sm⟩⟩) (fun w => absurd rfl w) (by unfold mF; omega) (fun e s ep m1 m2 => ?_) (fun q W1 ov1 s fu2 ep P2 hf2 => ?_)
      · rw [ep]
        exact ⟨m1, m2⟩
      · have L := (p_F_le (xs := xs) 8 none 0 [1] 0 [] false (by omega) ⟨g0, sm, by omega, by omega⟩).2 q W1 ov1 ep
        obtain ⟨l1, l2, W2, l3, l4⟩ := L
        have S := p_F_ne0 (xs := xs) _ _ _ _ _ _ _ _ _ _ ep
        exact rm_fin b ep l2 S (by rw [l3, List.nil_append]; omega) P2 hf2
  · rw [if_pos g0, show mF = 5999 + 1 from rfl, (rm_out b (by omega) P.2.1 R (by simp)).1 rfl]
    unfold g_parse_112 g_parse_165 g_parse_243
    rw [if_neg (show ¬ nI (xs.getD 0 0) = 60 from fun w => g0 ((nI_eq (b := 60) (by omega) (by decide)).mp w)), if_neg (by decide), if_neg (by decide)]
    exact bad 0 (by omega)
theorem rm_one (b : md_buf st0 xs) (hx : ∀ c ∈ xs, c ≠ 0) {dep : Nat} (h1 : 1 ≤ dep) (h6 : dep ≤ 6) (lab : List Int32) : mq (g_parse 0 (nI dep) st0) (rdG st0 (p_one xs dep lab)) := by
  have hl := b.2.2.1
  unfold p_one
  by_cases h0 : xs.length = 0
  · rw [if_pos h0]
    exact rm_empty b h0
  rw [if_neg h0, rm_parse0]
  have P := ms0_P (st0 := st0) (xs := xs) dep
  refine rm_piece (y1 := 0) (base := dep) b (rm_F b hx 8) none dep lab 0 [] false [] (ms0 st0 dep) mF (by omega) ⟨h1, h6, by omega⟩ (Nat.le_refl _) P (Or.inl ⟨rfl, rfl⟩) rfl (fun _ => ⟨rfl, Or.inl rfl⟩) (fun w => absurd rfl w) (by unfold mF; omega) (fun e s ep m1 m2 => ?_) (fun q W1 ov1 s fu2 ep P2 hf2 => ?_)
  · rw [ep]
    exact ⟨m1, m2⟩
  · obtain ⟨l1, l2, W2, l3, l4⟩ := (p_piece_le (p_F_le (xs := xs) 8) none dep lab 0 [] false (by omega) ⟨h1, h6, by omega⟩).2 q W1 ov1 ep
    exact rm_fin b ep l2 (p_piece_ne' (fun par dep lab p W ov q W1 ov1 e => p_F_ne0 _ _ _ _ _ _ _ _ _ _ e) ep) (by rw [l3, List.nil_append]; omega) P2 hf2
end QM12
