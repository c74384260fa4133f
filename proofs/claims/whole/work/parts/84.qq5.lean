-- paths in the reference: the other turns of its machine
section QQ5
variable {st0 st : mT} {xs : List Nat} {p lv nest ns np ne : Nat}
theorem rq_stop {fu : Nat} (hf : 1 ≤ fu) (h : 0 ≤ st.1 9) : g_readPath_52 fu st = some st := by
  obtain ⟨fu, rfl⟩ : ∃ f, fu = f + 1 := ⟨fu - 1, by omega⟩
  unfold g_readPath_52
  rw [if_pos h]
theorem rq_stopQ {Q : mT → Prop} {fu e : Nat} (hf : 1 ≤ fu) (he : e ≤ 1000) (h : st.1 9 = nI e) (hq : Q st) : mq (g_readPath_52 fu st) Q := by
  rw [rq_stop hf (by rw [h]; exact nI_le (Nat.zero_le _) (by omega))]
  exact mq_some hq
/-- one turn -/
theorem rq_turn {fu sta : Nat} (M : qM st0 st p lv nest ns np ne sta) (h : sta ≠ 2 ∨ lv ≠ 0 ∨ p < xs.length) (b : md_buf st0 xs) (hs : sta < 5) (hlv : lv < 5) (hp : p ≤ xs.length) : g_readPath_52 (fu + 1) st = g_readPath_85 (g_readPath_52 fu) st := by
  obtain ⟨m1, m2, m3, m4, m5, m6, m7, m8, m9⟩ := M
  have bs := m1.buf b
  have hl := b.2.2.1
  conv => lhs; unfold g_readPath_52
  rw [if_neg (show ¬ (0 : Int32) ≤ st.1 9 by rw [m3]; decide), m9, m7, m2, bs.1]
  by_cases h2 : sta = 2
  · rw [if_pos (show nI sta = 2 by rw [h2]; rfl)]
    by_cases h0 : lv = 0
    · rw [if_pos (show nI lv = 0 by rw [h0]; rfl), if_neg (nI_ge (by omega) (by omega))]
    · rw [if_neg (show ¬ nI lv = 0 from fun w => h0 ((nI_eq (b := 0) (by omega) (by decide)).mp w))]
  · rw [if_neg (show ¬ nI sta = 2 from fun w => h2 ((nI_eq (b := 2) (by omega) (by decide)).mp w))]
theorem rq_85 {k52 : mT → Option mT} {sta : Nat} (M : qM st0 st p lv nest ns np ne sta) : (sta = 0 → g_readPath_85 k52 st = (g_beginPath st).bind k52) ∧ (sta = 1 → g_readPath_85 k52 st = (g_beginStep st).bind k52) ∧ (sta = 2 → g_readPath_85 k52 st = (g_behindStep st).bind k52) ∧ (sta = 3 → g_readPath_85 k52 st = (g_beginPredicate st).bind k52) ∧ (sta = 4 → g_readPath_85 k52 st = (g_must (st.1 8) 93 st).bind (fun q16 => k52 (mm_F (mm_F (mm_F q16.2 8 (q16.2.1 8 + 1)) 46 ((mm_F q16.2 8 (q16.2.1 8 + 1)).1 46 - 1)) 47 2))) := by
  have m9 := M.2.2.2.2.2.2.2.2
  unfold g_readPath_85
  rw [m9]
  refine ⟨fun h => ?_, fun h => ?_, fun h => ?_, fun h => ?_, fun h => ?_⟩ <;> subst h
  · rw [if_pos (by rfl)]
  · rw [if_neg (by decide), if_pos (by rfl)]
  · rw [if_neg (by decide), if_neg (by decide), if_pos (by rfl)]
  · rw [if_neg (by decide), if_neg (by decide), if_neg (by decide), if_pos (by rfl)]
  · rw [if_neg (by decide), if_neg (by decide), if_neg (by decide), if_neg (by decide)]
    rfl
/-- a path begins -/
theorem rq_path (b : md_buf st0 xs) (hp : p ≤ xs.length) (hlv : lv < 5) (M : qM st0 st p lv nest ns np ne 0) {ow : Nat} (how : lv ≠ 0 → st.2.1 50 lv = nI ow ∧ ow < 65) : (if xs.getD p 0 = 47 then p + 1 else p) ≤ xs.length ∧ mq (g_beginPath st) (fun s => qM st0 s (if xs.getD p 0 = 47 then p + 1 else p) lv nest ns np ne 1 ∧ (if lv = 0 then s.1 49 = bI (decide (xs.getD p 0 = 47)) else s.2.1 41 ow = bI (decide (xs.getD p 0 = 47)) ∧ s.1 49 = st.1 49) ∧ s.1 48 = st.1 48 ∧ qSame st s (fun a i => a = 41 ∧ lv ≠ 0 ∧ i = ow)) := by
  obtain ⟨m1, m2, m3, m4, m5, m6, m7, m8, m9⟩ := M
  have bs := m1.buf b
  have hl := b.2.2.1
  have lc := getD_lt bs.2.2.2 p
  have c47 : nI (xs.getD p 0) = 47 ↔ xs.getD p 0 = 47 := nI_eq (b := 47) (by omega) (by decide)
  have key : ∀ (s1 : mT) (v : Bool) (p1 : Nat), qFr st0 s1 → s1.1 8 = nI p1 → (∀ k, k ≠ 8 → s1.1 k = st.1 k) → s1.2.1 = st.2.1 → mq (g_beginPath_33 (bI v) s1) (fun s => qM st0 s p1 lv nest ns np ne 1 ∧ (if lv = 0 then s.1 49 = bI v else s.2.1 41 ow = bI v ∧ s.1 49 = st.1 49) ∧ s.1 48 = st.1 48 ∧ qSame st s (fun a i => a = 41 ∧ lv ≠ 0 ∧ i = ow)) := fun s1 v p1 k1 k2 k3 k4 => by
    unfold g_beginPath_33 g_beginPath_63
    rw [show s1.1 45 = nI lv from (k3 45 (by decide)).trans m7]
    by_cases h0 : lv = 0
    · rw [if_pos (show nI lv = 0 by rw [h0]; rfl)]
      have ez : mm_zc (bI v) (some (mm_F (mm_F s1 49 (bI v)) 47 1)) = some (mm_F (mm_F s1 49 (bI v)) 47 1) := by cases v <;> rfl
      show mq (mm_zc (bI v) (some (mm_F (mm_F s1 49 (bI v)) 47 1))) _
      rw [ez]
      have f : ∀ k, k ≠ 49 → k ≠ 47 → k ≠ 8 → (mm_F (mm_F s1 49 (bI v)) 47 1).1 k = st.1 k := fun k h1 h2 h3 => (fF_n h2).trans ((fF_n h1).trans (k3 k h3))
      exact mq_some ⟨⟨(k1.F (by unfold qfld; omega)).F (by unfold qfld; omega), (fF_n (by decide)).trans ((fF_n (by decide)).trans k2), (f 9 (by decide) (by decide) (by decide)).trans m3, (f 24 (by decide) (by decide) (by decide)).trans m4, (f 31 (by decide) (by decide) (by decide)).trans m5, (f 43 (by decide) (by decide) (by decide)).trans m6, (f 45 (by decide) (by decide) (by decide)).trans m7, (f 46 (by decide) (by decide) (by decide)).trans m8, fF_s⟩, (by rw [if_pos h0]; exact (fF_n (by decide)).trans fF_s), f 48 (by decide) (by decide) (by decide), fun a i _ => by show s1.2.1 a i = _; rw [k4]⟩
    · obtain ⟨o1, o2⟩ := how h0
      rw [if_neg (show ¬ nI lv = 0 from fun w => h0 ((nI_eq (b := 0) (by omega) (by decide)).mp w)), mp_ld hlv (by decide), k4, o1, mp_ix o2 (by decide), show vp_nar .boolean (bI v) = bI v by cases v <;> decide]
      show mq (some (mm_F (mm_G s1 41 ow (bI v)) 47 1)) _
      have f : ∀ k, k ≠ 47 → k ≠ 8 → (mm_F (mm_G s1 41 ow (bI v)) 47 1).1 k = st.1 k := fun k h2 h3 => (fF_n h2).trans (k3 k h3)
      exact mq_some ⟨⟨(k1.G (by unfold qarr; omega)).F (by unfold qfld; omega), (fF_n (by decide)).trans k2, (f 9 (by decide) (by decide)).trans m3, (f 24 (by decide) (by decide)).trans m4, (f 31 (by decide) (by decide)).trans m5, (f 43 (by decide) (by decide)).trans m6, (f 45 (by decide) (by decide)).trans m7, (f 46 (by decide) (by decide)).trans m8, fF_s⟩, (by rw [if_neg h0]; exact ⟨fG_s (st := s1) (a := 41), f 49 (by decide) (by decide)⟩), f 48 (by decide) (by decide), fun a i h => by
        show (mm_G s1 41 ow (bI v)).2.1 a i = _
        rw [fG_c (fun w => h ⟨w.1, h0, w.2⟩), k4]⟩
  unfold g_beginPath g_beginPath_18
  rw [m2, mp_look bs (by omega), Option.bind_some]
  by_cases e : xs.getD p 0 = 47
  · have := getD_pos e (by decide)
    rw [if_pos e]
    refine ⟨by omega, ?_⟩
    rw [if_pos (c47.mpr e), if_neg (by decide)]
    have := key (mm_F st 8 (nI (p + 1))) true (p + 1) (m1.F (by unfold qfld; omega)) fF_s (fun k hk => fF_n hk) rfl
    rw [decide_eq_true e]
    rw [show (mm_lt (mm_F st 8 (st.1 8 + 1)) fun st7 => g_beginPath_33 1 st7) = g_beginPath_33 (bI true) (mm_F st 8 (nI (p + 1))) by rw [m2, nI_1]; rfl]
    exact this
  · rw [if_neg e]
    refine ⟨hp, ?_⟩
    rw [if_neg (fun w => e (c47.mp w)), if_pos rfl, decide_eq_false e]
    exact key st false p m1 m2 (fun _ _ => rfl) rfl
/-- behind a step -/
theorem rq_behind (b : md_buf st0 xs) (hp : p ≤ xs.length) (hlv : lv < 5) (hnest : nest < 5) (M : qM st0 st p lv nest ns np ne 2) {ow : Nat} (how : lv ≠ 0 → st.2.1 50 lv = nI ow ∧ ow < 65) (hne : ne < 65) : (xs.getD p 0 = 91 → nest < 3 → mq (g_behindStep st) (fun s => qM st0 s (p + 1) lv (nest + 1) ns np ne 3 ∧ s.2.1 = st.2.1 ∧ s.1 48 = st.1 48 ∧ s.1 49 = st.1 49)) ∧ (xs.getD p 0 = 47 → mq (g_behindStep st) (fun s => qM st0 s (p + 1) lv nest ns np ne 1 ∧ s.2.1 = st.2.1 ∧ s.1 48 = st.1 48 ∧ s.1 49 = st.1 49)) ∧ ((xs.getD p 0 = 91 ∧ ¬ nest < 3) ∨ (xs.getD p 0 ≠ 91 ∧ xs.getD p 0 ≠ 47 ∧ (lv = 0 ∨ (xs.getD p 0 ≠ 61 ∧ xs.getD p 0 ≠ 126 ∧ xs.getD p 0 ≠ 93))) → mq (g_behindStep st) (fun s => qFr st0 s ∧ s.1 9 = nI p)) ∧ (lv ≠ 0 → (xs.getD p 0 = 61 ∨ xs.getD p 0 = 126) → (∀ e, q_str xs (p + 1) = .inl e → e ≤ xs.length ∧ mq (g_behindStep st) (fun s => qFr st0 s ∧ s.1 9 = nI e)) ∧ ∀ q t, q_str xs (p + 1) = .inr (q, t) → p < q ∧ q ≤ xs.length ∧ mq (g_behindStep st) (fun s => qM st0 s q (lv - 1) nest ns np (ne + 1) 4 ∧ s.2.1 32 ow = nI (if xs.getD p 0 = 61 then 5 else 6) ∧ rTx xs (s.2.1 36 ow) (s.2.1 37 ow) t ∧ s.2.1 44 ne = nI ow ∧ s.1 48 = st.1 48 ∧ s.1 49 = st.1 49 ∧ qSame st s (fun a i => ((a = 32 ∨ a = 36 ∨ a = 37) ∧ i = ow) ∨ (a = 44 ∧ i = ne)))) ∧ (lv ≠ 0 → xs.getD p 0 = 93 → mq (g_behindStep st) (fun s => qM st0 s p (lv - 1) nest ns np (ne + 1) 4 ∧ s.2.1 32 ow = nI 4 ∧ s.2.1 44 ne = nI ow ∧ s.1 48 = st.1 48 ∧ s.1 49 = st.1 49 ∧ qSame st s (fun a i => (a = 32 ∧ i = ow) ∨ (a = 44 ∧ i = ne)))) := by
  have M0 := M
  obtain ⟨m1, m2, m3, m4, m5, m6, m7, m8, m9⟩ := M
  have bs := m1.buf b
  have hl := b.2.2.1
  have lc := getD_lt bs.2.2.2 p
  have i : ∀ k, k < 128 → (nI (xs.getD p 0) = nI k ↔ xs.getD p 0 = k) := fun k hk => nI_eq (by omega) (by omega)
  have c91 : nI (xs.getD p 0) = 91 ↔ xs.getD p 0 = 91 := i 91 (by decide)
  have c47 : nI (xs.getD p 0) = 47 ↔ xs.getD p 0 = 47 := i 47 (by decide)
  have c61 : nI (xs.getD p 0) = 61 ↔ xs.getD p 0 = 61 := i 61 (by decide)
  have c126 : nI (xs.getD p 0) = 126 ↔ xs.getD p 0 = 126 := i 126 (by decide)
  have c93 : nI (xs.getD p 0) = 93 ↔ xs.getD p 0 = 93 := i 93 (by decide)
  have e29 : ∃ w0 : Int32, (lv = 0 → w0 = -1) ∧ (lv ≠ 0 → w0 = nI ow) ∧ g_behindStep st = g_behindStep_29 (nI (xs.getD p 0)) w0 st := by
    unfold g_behindStep
    rw [m2, mp_look bs (by omega), Option.bind_some]
    simp only []
    rw [m7]
    by_cases h0 : lv = 0
    · rw [if_pos (show nI lv ≤ 0 by rw [h0]; decide)]
      exact ⟨-1, fun _ => rfl, fun w => absurd h0 w, rfl⟩
    · rw [if_neg (show ¬ nI lv ≤ 0 from nI_ge (a := 0) (by omega) (by omega)), mp_ld hlv (by decide), (how h0).1]
      exact ⟨nI ow, fun w => absurd w h0, fun _ => rfl, rfl⟩
  obtain ⟨w0, u1, u2, e29⟩ := e29
  rw [e29]
  have e72 : (xs.getD p 0 ≠ 91 ∨ ¬ nest < 3) → g_behindStep_29 (nI (xs.getD p 0)) w0 st = g_behindStep_72 (nI (xs.getD p 0)) w0 st := fun h => by
    unfold g_behindStep_29
    by_cases e : xs.getD p 0 = 91
    · rw [if_pos (c91.mpr e), m8, if_pos (show (3 : Int32) ≤ nI nest from nI_le (a := 3) (by have := h.resolve_left (fun w => w e); omega) (by omega))]
    · rw [if_neg (fun w => e (c91.mp w))]
  -- a path ends
  have fin : ∀ (s1 : mT) (q : Nat), qM st0 s1 q lv nest ns np ne 2 → lv ≠ 0 → mq (g_behindStep_180 (nI ow) s1) (fun s => qM st0 s q (lv - 1) nest ns np (ne + 1) 4 ∧ s.2.1 44 ne = nI ow ∧ s.1 48 = s1.1 48 ∧ s.1 49 = s1.1 49 ∧ qSame s1 s (fun a i => a = 44 ∧ i = ne)) := fun s1 q N h0 => by
    obtain ⟨n1, n2, n3, n4, n5, n6, n7, n8, n9⟩ := N
    unfold g_behindStep_180
    rw [n6, mp_ix hne (by decide)]
    simp only [mm_lt]
    rw [show (mm_G s1 44 ne (nI ow)).1 43 = nI ne from n6, nI_1, show (mm_F (mm_G s1 44 ne (nI ow)) 43 (nI (ne + 1))).1 45 = nI lv from (fF_n (by decide)).trans n7, show nI lv - 1 = nI (lv - 1) by rw [show (1 : Int32) = nI 1 from rfl, nI_sub (by omega)]]
    have f : ∀ k, k ≠ 43 → k ≠ 45 → k ≠ 47 → (mm_F (mm_F (mm_F (mm_G s1 44 ne (nI ow)) 43 (nI (ne + 1))) 45 (nI (lv - 1))) 47 4).1 k = s1.1 k := fun k h1 h2 h3 => (fF_n h3).trans ((fF_n h2).trans (fF_n h1))
    exact mq_some ⟨⟨(((n1.G (by unfold qarr; omega)).F (by unfold qfld; omega)).F (by unfold qfld; omega)).F (by unfold qfld; omega), (f 8 (by decide) (by decide) (by decide)).trans n2, (f 9 (by decide) (by decide) (by decide)).trans n3, (f 24 (by decide) (by decide) (by decide)).trans n4, (f 31 (by decide) (by decide) (by decide)).trans n5, (fF_n (by decide)).trans ((fF_n (by decide)).trans fF_s), (fF_n (by decide)).trans fF_s, (f 46 (by decide) (by decide) (by decide)).trans n8, fF_s⟩, fG_s (st := s1) (a := 44), f 48 (by decide) (by decide) (by decide), f 49 (by decide) (by decide) (by decide), fun a i h => fG_c (fun w => h w)⟩
  refine ⟨fun e hn => ?_, fun e => ?_, fun h => ?_, fun h0 h => ?_, fun h0 e => ?_⟩
  · unfold g_behindStep_29
    rw [if_pos (c91.mpr e), m8, if_neg (show ¬ (3 : Int32) ≤ nI nest from nI_ge (b := 3) hn (by decide)), nI_1]
    simp only [mm_lt]
    rw [show (mm_F st 46 (nI (nest + 1))).1 8 = nI p from (fF_n (by decide)).trans m2, nI_1]
    have f : ∀ k, k ≠ 46 → k ≠ 8 → k ≠ 47 → (mm_F (mm_F (mm_F st 46 (nI (nest + 1))) 8 (nI (p + 1))) 47 3).1 k = st.1 k := fun k h1 h2 h3 => (fF_n h3).trans ((fF_n h2).trans (fF_n h1))
    exact mq_some ⟨⟨((m1.F (by unfold qfld; omega)).F (by unfold qfld; omega)).F (by unfold qfld; omega), (fF_n (by decide)).trans fF_s, (f 9 (by decide) (by decide) (by decide)).trans m3, (f 24 (by decide) (by decide) (by decide)).trans m4, (f 31 (by decide) (by decide) (by decide)).trans m5, (f 43 (by decide) (by decide) (by decide)).trans m6, (f 45 (by decide) (by decide) (by decide)).trans m7, (fF_n (by decide)).trans ((fF_n (by decide)).trans fF_s), fF_s⟩, rfl, f 48 (by decide) (by decide) (by decide), f 49 (by decide) (by decide) (by decide)⟩
  · rw [e72 (Or.inl (by rw [e]; decide))]
    unfold g_behindStep_72
    rw [if_pos (c47.mpr e), m2, nI_1]
    have f : ∀ k, k ≠ 8 → k ≠ 47 → (mm_F (mm_F st 8 (nI (p + 1))) 47 1).1 k = st.1 k := fun k h2 h3 => (fF_n h3).trans (fF_n h2)
    exact mq_some ⟨⟨(m1.F (by unfold qfld; omega)).F (by unfold qfld; omega), (fF_n (by decide)).trans fF_s, (f 9 (by decide) (by decide)).trans m3, (f 24 (by decide) (by decide)).trans m4, (f 31 (by decide) (by decide)).trans m5, (f 43 (by decide) (by decide)).trans m6, (f 45 (by decide) (by decide)).trans m7, (f 46 (by decide) (by decide)).trans m8, fF_s⟩, rfl, f 48 (by decide) (by decide), f 49 (by decide) (by decide)⟩
  · rw [e72 (h.imp (fun w => w.2) (fun w => w.1) |>.symm)]
    have ne47 : xs.getD p 0 ≠ 47 := by
      rcases h with w | w
      · rw [w.1]; decide
      · exact w.2.1
    have e218 : g_behindStep_218 st = some (mm_F st 9 (nI p)) := by
      unfold g_behindStep_218
      rw [m2, rm_err bs m3 hp, Option.bind_some]
    unfold g_behindStep_72
    rw [if_neg (fun w => ne47 (c47.mp w)), e218]
    have good : mq (some (mm_F st 9 (nI p))) (fun s => qFr st0 s ∧ s.1 9 = nI p) := mq_some ⟨m1.F (by unfold qfld; omega), fF_s⟩
    by_cases h0 : lv = 0
    · rw [u1 h0, if_pos (by decide)]
      exact good
    · rw [u2 h0, if_neg (show ¬ nI ow < 0 from nI_pos (by have := (how h0).2; omega))]
      have n3 : xs.getD p 0 ≠ 61 ∧ xs.getD p 0 ≠ 126 ∧ xs.getD p 0 ≠ 93 := by
        rcases h with w | w
        · rw [w.1]; decide
        · exact w.2.2.resolve_left h0
      rw [if_neg (fun w => n3.1 (c61.mp w)), if_neg (fun w => n3.2.1 (c126.mp w)), if_neg (fun w => n3.2.2 (c93.mp w))]
      exact good
  · have hp1 : p < xs.length := by
      rcases h with h | h
      · exact getD_pos h (by decide)
      · exact getD_pos h (by decide)
    obtain ⟨o1, o2⟩ := how h0
    have n91 : xs.getD p 0 ≠ 91 := by rcases h with h | h <;> (rw [h]; decide)
    have n47 : xs.getD p 0 ≠ 47 := by rcases h with h | h <;> (rw [h]; decide)
    have n93 : xs.getD p 0 ≠ 93 := by rcases h with h | h <;> (rw [h]; decide)
    have f : ∀ (v : Int32) (k : Nat), k ≠ 8 → (mm_F (mm_G st 32 ow v) 8 (nI (p + 1))).1 k = st.1 k := fun v k h2 => fF_n h2
    have e145 : g_behindStep_29 (nI (xs.getD p 0)) w0 st = (g_string (nI ow) (mm_F (mm_G st 32 ow (nI (if xs.getD p 0 = 61 then 5 else 6))) 8 (nI (p + 1)))).bind (fun q11 => g_behindStep_180 (nI ow) q11) := by
      rw [e72 (Or.inl n91)]
      unfold g_behindStep_72
      rw [if_neg (fun w => n47 (c47.mp w)), u2 h0, if_neg (show ¬ nI ow < 0 from nI_pos (by omega))]
      have e118 : g_behindStep_118 (nI (xs.getD p 0)) (nI ow) st = (g_string (nI ow) (mm_F (mm_G st 32 ow (nI (if xs.getD p 0 = 61 then 5 else 6))) 8 (nI (p + 1)))).bind (fun q11 => g_behindStep_180 (nI ow) q11) := by
        have key : ∀ v : Int32, g_behindStep_145 (nI (xs.getD p 0)) (nI ow) v (nI ow) st = (g_string (nI ow) (mm_F (mm_G st 32 ow v) 8 (nI (p + 1)))).bind (fun q11 => g_behindStep_180 (nI ow) q11) := fun v => by
          unfold g_behindStep_145
          rw [mp_ix o2 (by decide)]
          simp only [mm_lt]
          rw [if_neg (fun w => n93 (c93.mp w))]
          unfold g_behindStep_166
          simp only [mm_lt]
          rw [if_neg (fun w => n93 (c93.mp w)), show (mm_G st 32 ow v).1 8 = nI p from m2, nI_1]
        unfold g_behindStep_118
        by_cases q : xs.getD p 0 = 61
        · rw [if_pos (c61.mpr q), if_pos q]
          exact key 5
        · rw [if_neg (fun w => q (c61.mp w)), if_neg q, if_pos (c126.mpr (h.resolve_left q))]
          exact key 6
      by_cases q : xs.getD p 0 = 61
      · rw [if_pos (c61.mpr q)]
        exact e118
      · rw [if_neg (fun w => q (c61.mp w)), if_pos (c126.mpr (h.resolve_left q))]
        exact e118
    rw [e145]
    have N : qM st0 (mm_F (mm_G st 32 ow (nI (if xs.getD p 0 = 61 then 5 else 6))) 8 (nI (p + 1))) (p + 1) lv nest ns np ne 2 := ⟨(m1.G (by unfold qarr; omega)).F (by unfold qfld; omega), fF_s, (f _ 9 (by decide)).trans m3, (f _ 24 (by decide)).trans m4, (f _ 31 (by decide)).trans m5, (f _ 43 (by decide)).trans m6, (f _ 45 (by decide)).trans m7, (f _ 46 (by decide)).trans m8, (f _ 47 (by decide)).trans m9⟩
    have S := rq_str b o2 (by omega) N
    refine ⟨fun e he => ?_, fun q t he => ?_⟩
    · obtain ⟨le, s, a1, a2, a3, a4⟩ := S.1 e he
      refine ⟨le, mq_b a1 ?_⟩
      unfold g_behindStep_180
      rw [(a4 43 (by decide) (by decide)).trans ((f _ 43 (by decide)).trans m6), mp_ix hne (by decide)]
      exact mq_some ⟨(((a2.G (by unfold qarr; omega)).F (by unfold qfld; omega)).F (by unfold qfld; omega)).F (by unfold qfld; omega), (fF_n (by decide)).trans ((fF_n (by decide)).trans ((fF_n (by decide)).trans a3))⟩
    · obtain ⟨l1, l2, s, a1, a2, a3, a4, a5⟩ := S.2 q t he
      refine ⟨by omega, l2, mq_b a1 ?_⟩
      obtain ⟨s2, c1, c2, c3, c4, c5, c6⟩ := fin s q a2 h0
      refine ⟨s2, c1, c2, ?_, ?_, c3, c4.trans ((a4 48 (by decide)).trans (f _ 48 (by decide))), c5.trans ((a4 49 (by decide)).trans (f _ 49 (by decide))), fun a i h => ?_⟩
      · rw [c6 32 ow (by omega), a5 32 ow (by omega)]
        exact fG_s (st := st) (a := 32)
      · rw [c6 36 ow (by omega), c6 37 ow (by omega)]
        exact a3
      · rw [c6 a i (fun w => h (Or.inr w)), a5 a i (fun w => h (Or.inl ⟨by omega, w.2⟩))]
        exact fG_c (fun w => h (Or.inl ⟨by omega, w.2⟩))
  · obtain ⟨o1, o2⟩ := how h0
    have n91 : xs.getD p 0 ≠ 91 := by rw [e]; decide
    have n47 : xs.getD p 0 ≠ 47 := by rw [e]; decide
    have n61 : xs.getD p 0 ≠ 61 := by rw [e]; decide
    have n126 : xs.getD p 0 ≠ 126 := by rw [e]; decide
    have e145 : g_behindStep_29 (nI (xs.getD p 0)) w0 st = g_behindStep_180 (nI ow) (mm_F (mm_G st 32 ow (nI 4)) 8 (nI p)) := by
      rw [e72 (Or.inl n91)]
      unfold g_behindStep_72
      rw [if_neg (fun w => n47 (c47.mp w)), u2 h0, if_neg (show ¬ nI ow < 0 from nI_pos (by omega)), if_neg (fun w => n61 (c61.mp w)), if_neg (fun w => n126 (c126.mp w)), if_pos (c93.mpr e)]
      unfold g_behindStep_118
      rw [if_neg (fun w => n61 (c61.mp w)), if_neg (fun w => n126 (c126.mp w))]
      unfold g_behindStep_145
      rw [mp_ix o2 (by decide)]
      simp only [mm_lt]
      rw [if_pos (c93.mpr e)]
      unfold g_behindStep_166
      simp only [mm_lt]
      rw [if_pos (c93.mpr e), show (mm_G st 32 ow 4).1 8 = nI p from m2]
      rfl
    have f : ∀ (v : Int32) (k : Nat), k ≠ 8 → (mm_F (mm_G st 32 ow v) 8 (nI p)).1 k = st.1 k := fun v k h2 => fF_n h2
    have N : qM st0 (mm_F (mm_G st 32 ow (nI 4)) 8 (nI p)) p lv nest ns np ne 2 := ⟨(m1.G (by unfold qarr; omega)).F (by unfold qfld; omega), fF_s, (f _ 9 (by decide)).trans m3, (f _ 24 (by decide)).trans m4, (f _ 31 (by decide)).trans m5, (f _ 43 (by decide)).trans m6, (f _ 45 (by decide)).trans m7, (f _ 46 (by decide)).trans m8, (f _ 47 (by decide)).trans m9⟩
    obtain ⟨s2, c1, c2, c3, c4, c5, c6⟩ := fin _ p N h0
    refine ⟨s2, e145.trans c1, c2, ?_, c3, c4.trans (f _ 48 (by decide)), c5.trans (f _ 49 (by decide)), fun a i h => ?_⟩
    · rw [c6 32 ow (by omega)]
      exact fG_s (st := st) (a := 32)
    · rw [c6 a i (fun w => h (Or.inr w))]
      exact fG_c (fun w => h (Or.inl w))
/-- a bracket is closed -/
theorem rq_close (b : md_buf st0 xs) (hp : p ≤ xs.length) (hn : 1 ≤ nest) (hn2 : nest < 5) {k52 : mT → Option mT} (M : qM st0 st p lv nest ns np ne 4) {Q : mT → Prop} : (xs.getD p 0 ≠ 93 → (∀ s, qFr st0 s → s.1 9 = nI p → mq (k52 s) Q) → mq (g_readPath_85 k52 st) Q) ∧ (xs.getD p 0 = 93 → (∀ s, qM st0 s (p + 1) lv (nest - 1) ns np ne 2 → s.2.1 = st.2.1 → s.1 48 = st.1 48 → s.1 49 = st.1 49 → mq (k52 s) Q) → mq (g_readPath_85 k52 st) Q) := by
  have e := (rq_85 (k52 := k52) M).2.2.2.2 rfl
  obtain ⟨m1, m2, m3, m4, m5, m6, m7, m8, m9⟩ := M
  have bs := m1.buf b
  have hl := b.2.2.1
  rw [e, m2, show (93 : Int32) = nI 93 from rfl, rm_must bs (by decide) m3 hp]
  refine ⟨fun q h => ?_, fun q h => ?_⟩
  · rw [if_neg q, Option.bind_some]
    exact h _ (((m1.F (by unfold qfld; omega)).F (by unfold qfld; omega)).F (by unfold qfld; omega) |>.F (by unfold qfld; omega)) ((fF_n (by decide)).trans ((fF_n (by decide)).trans ((fF_n (by decide)).trans fF_s)))
  · rw [if_pos q, Option.bind_some]
    simp only []
    rw [m2, nI_1, show (mm_F st 8 (nI (p + 1))).1 46 = nI nest from (fF_n (by decide)).trans m8, show nI nest - 1 = nI (nest - 1) by rw [show (1 : Int32) = nI 1 from rfl, nI_sub hn]]
    have f : ∀ k, k ≠ 46 → k ≠ 8 → k ≠ 47 → (mm_F (mm_F (mm_F st 8 (nI (p + 1))) 46 (nI (nest - 1))) 47 2).1 k = st.1 k := fun k h1 h2 h3 => (fF_n h3).trans ((fF_n h1).trans (fF_n h2))
    exact h _ ⟨((m1.F (by unfold qfld; omega)).F (by unfold qfld; omega)).F (by unfold qfld; omega), (fF_n (by decide)).trans ((fF_n (by decide)).trans fF_s), (f 9 (by decide) (by decide) (by decide)).trans m3, (f 24 (by decide) (by decide) (by decide)).trans m4, (f 31 (by decide) (by decide) (by decide)).trans m5, (f 43 (by decide) (by decide) (by decide)).trans m6, (f 45 (by decide) (by decide) (by decide)).trans m7, (fF_n (by decide)).trans fF_s, fF_s⟩ rfl (f 48 (by decide) (by decide) (by decide)) (f 49 (by decide) (by decide) (by decide))
end QQ5
-- paths in the reference: a predicate begins
/-- behind the signs of not -/
def g_bpc (x1 : Int32) (st : mT) : Option mT := ((g_look (st.1 8) st).bind (fun q13 => (mm_lt (mm_F q13.2 47 4) (fun st14 => ((g_digit q13.1 st14).bind (fun q15 => (if q15.1 = 0 then (if q13.1 = 36 then (mm_ix 65 x1 (fun j24 => mm_lt (mm_G q15.2 32 j24 1) (fun st23 => (mm_lt (mm_F st23 8 ((st23.1 8) + 1)) (fun st25 => (some st25)))))) else (if q13.1 = 64 then ((g_attributePredicate x1 q15.2).bind (fun q22 => (some q22))) else (mm_lt (mm_F q15.2 45 ((q15.2.1 45) + 1)) (fun st16 => (mm_ix 5 (st16.1 45) (fun j18 => mm_lt (mm_G st16 50 j18 x1) (fun st17 => (mm_ix 5 (st17.1 45) (fun j20 => mm_lt (mm_G st17 51 j20 (-1)) (fun st19 => (mm_lt (mm_F st19 47 0) (fun st21 => (some st21))))))))))))) else ((g_look ((q15.2.1 8) + 1) q15.2).bind (fun q26 => ((g_digit q26.1 q26.2).bind (fun q27 => (mm_ix 65 x1 (fun j29 => mm_lt (mm_G q27.2 32 j29 0) (fun st28 => (if q27.1 = 0 then (g_beginPredicate_209 q27.1 (q13.1 - 48) x1 st28) else ((g_look ((st28.1 8) + 1) st28).bind (fun q33 => (g_beginPredicate_209 q27.1 (((10 * (q13.1 - 48)) + q33.1) - 48) x1 q33.2))))))))))))))))))
theorem q_bng_sp {xs : List Nat} : ∀ (f p : Nat) (v : Bool), p ≤ xs.length → xs.length < p + f → p ≤ (q_bng xs f p v).1 ∧ (q_bng xs f p v).1 ≤ xs.length ∧ xs.getD (q_bng xs f p v).1 0 ≠ 33 := by
  intro f
  induction f with
  | zero => intro p v h1 h2; omega
  | succ f ih =>
    intro p v h1 h2
    unfold q_bng
    by_cases e : xs.getD p 0 = 33
    · have hp := getD_pos e (by decide)
      rw [if_pos e]
      have := ih (p + 1) (!v) (by omega) (by omega)
      exact ⟨by omega, this.2⟩
    · rw [if_neg e]
      exact ⟨Nat.le_refl _, h1, e⟩
section QQ6
variable {st0 st : mT} {xs : List Nat} {p lv nest ns np ne : Nat}
theorem rq_bng (b : md_buf st0 xs) {id : Nat} (hid : id < 65) : ∀ (f fu p : Nat) (v : Bool) (st : mT), p ≤ xs.length → xs.length < p + f → f < fu → qM st0 st p lv nest ns np ne 3 → st.2.1 40 id = bI v → ∃ s, g_beginPredicate_84 fu (nI id) st = g_bpc (nI id) s ∧ qM st0 s (q_bng xs f p v).1 lv nest ns np ne 3 ∧ s.2.1 40 id = bI (q_bng xs f p v).2 ∧ s.1 48 = st.1 48 ∧ s.1 49 = st.1 49 ∧ qSame st s (fun a i => a = 40 ∧ i = id) := by
  have hl := b.2.2.1
  intro f
  induction f with
  | zero => intro fu p v st h1 h2; omega
  | succ f ih =>
    intro fu p v st h1 h2 h3 M hv
    obtain ⟨fu, rfl⟩ : ∃ f, fu = f + 1 := ⟨fu - 1, by omega⟩
    have M0 := M
    obtain ⟨m1, m2, m3, m4, m5, m6, m7, m8, m9⟩ := M
    have bs := m1.buf b
    have lc := getD_lt bs.2.2.2 p
    have c33 : nI (xs.getD p 0) = 33 ↔ xs.getD p 0 = 33 := nI_eq (b := 33) (by omega) (by decide)
    unfold q_bng
    by_cases e : xs.getD p 0 = 33
    · have hp := getD_pos e (by decide)
      rw [if_pos e]
      have e1 : g_beginPredicate_84 (fu + 1) (nI id) st = g_beginPredicate_84 fu (nI id) (mm_F (mm_G st 40 id (bI (!v))) 8 (nI (p + 1))) := by
        conv => lhs; unfold g_beginPredicate_84
        rw [m2, mp_look bs (by omega), Option.bind_some, if_pos (c33.mpr e), mp_ld hid (by decide), hv]
        have k : ∀ w : Bool, g_beginPredicate_116 (g_beginPredicate_84 fu) (nI id) (bI w) (nI id) st = g_beginPredicate_84 fu (nI id) (mm_F (mm_G st 40 id (bI w)) 8 (nI (p + 1))) := fun w => by
          unfold g_beginPredicate_116
          rw [mp_ix hid (by decide), show vp_nar .boolean (bI w) = bI w by cases w <;> decide]
          simp only [mm_lt]
          rw [show (mm_G st 40 id (bI w)).1 8 = nI p from m2, nI_1]
        cases v with
        | true => rw [if_neg (by decide)]; exact k false
        | false => rw [if_pos (by decide)]; exact k true
      have f' : ∀ k, k ≠ 8 → (mm_F (mm_G st 40 id (bI (!v))) 8 (nI (p + 1))).1 k = st.1 k := fun k hk => fF_n hk
      obtain ⟨s, a1, a2, a3, a4, a5, a6⟩ := ih fu (p + 1) (!v) (mm_F (mm_G st 40 id (bI (!v))) 8 (nI (p + 1))) (by omega) (by omega) (by omega) ⟨(m1.G (by unfold qarr; omega)).F (by unfold qfld; omega), fF_s, (f' 9 (by decide)).trans m3, (f' 24 (by decide)).trans m4, (f' 31 (by decide)).trans m5, (f' 43 (by decide)).trans m6, (f' 45 (by decide)).trans m7, (f' 46 (by decide)).trans m8, (f' 47 (by decide)).trans m9⟩ (fG_s (st := st) (a := 40))
      exact ⟨s, e1.trans a1, a2, a3, a4.trans (f' 48 (by decide)), a5.trans (f' 49 (by decide)), fun a i h => (a6 a i h).trans (fG_c (fun w => h w))⟩
    · rw [if_neg e]
      refine ⟨st, ?_, M0, hv, rfl, rfl, fun _ _ _ => rfl⟩
      conv => lhs; unfold g_beginPredicate_84
      rw [m2, mp_look bs (by omega), Option.bind_some, if_neg (fun w => e (c33.mp w))]
      unfold g_bpc
      rw [m2]
/-- which cells a predicate's head changes -/
def qPC (lv ls : Nat) (lp : Option Nat) (np : Nat) (a i : Nat) : Prop := (32 ≤ a ∧ a ≤ 41 ∧ i = np) ∨ (a = 39 ∧ lp = some i) ∨ (a = 29 ∧ lp = none ∧ i = ls) ∨ (a = 52 ∧ i = lv) ∨ ((a = 50 ∨ a = 51) ∧ i = lv + 1)
def qPL (s : mT) (ls : Nat) (lp : Option Nat) (np : Nat) : Prop := match lp with
  | some l => s.2.1 39 l = nI np
  | none => s.2.1 29 ls = nI np
/-- the head: where the predicate is linked -/
theorem rq_phd (b : md_buf st0 xs) (hp : p ≤ xs.length) (hlv : lv < 4) (hnp : np < 65) (hns : ns ≤ 130) (M : qM st0 st p lv nest ns np ne 3) {ls : Nat} {lp : Option Nat} (h51 : st.2.1 51 lv = nI ls) (hls : ls < ns) (h52 : st.2.1 52 lv = (match lp with | some l => nI l | none => -1)) (hlp : ∀ l, lp = some l → l < np) : ∃ s, g_beginPredicate st = g_bpc (nI np) s ∧ qM st0 s (q_bng xs 130 p false).1 lv nest ns (np + 1) ne 3 ∧ s.2.1 40 np = bI (q_bng xs 130 p false).2 ∧ s.2.1 39 np = -1 ∧ s.2.1 52 lv = nI np ∧ qPL s ls lp np ∧ s.1 48 = st.1 48 ∧ s.1 49 = st.1 49 ∧ qSame st s (qPC lv ls lp np) := by
  have hl := b.2.2.1
  obtain ⟨m1, m2, m3, m4, m5, m6, m7, m8, m9⟩ := M
  have f : ∀ k, k ≠ 31 → (mm_F st 31 (nI (np + 1))).1 k = st.1 k := fun k hk => fF_n hk
  generalize hs4 : mm_G (mm_G (mm_F st 31 (nI (np + 1))) 39 np (-1)) 40 np 0 = s4
  have c1 : s4.1 = (mm_F st 31 (nI (np + 1))).1 := by rw [← hs4]; rfl
  have c39 : s4.2.1 39 np = -1 := by
    rw [← hs4, fG_n (by decide)]
    exact fG_s (st := mm_F st 31 (nI (np + 1))) (a := 39)
  have c40 : s4.2.1 40 np = 0 := by rw [← hs4, fG_s]
  have cs : ∀ a i, ¬ ((a = 39 ∨ a = 40) ∧ i = np) → s4.2.1 a i = st.2.1 a i := fun a i h => by
    rw [← hs4, fG_c (fun w => h ⟨Or.inr w.1, w.2⟩)]
    exact fG_c (st := mm_F st 31 (nI (np + 1))) (fun w => h ⟨Or.inl w.1, w.2⟩)
  have q4 : qFr st0 s4 := by rw [← hs4]; exact ((m1.F (by unfold qfld; omega)).G (by unfold qarr; omega)).G (by unfold qarr; omega)
  have fin : ∀ s5 : mT, qFr st0 s5 → s5.1 = s4.1 → (∀ a, 32 ≤ a → a ≤ 41 → s5.2.1 a np = s4.2.1 a np) → qPL s5 ls lp np → (∀ a i, ¬ ((a = 39 ∨ a = 40) ∧ i = np) → ¬ (a = 39 ∧ lp = some i) → ¬ (a = 29 ∧ lp = none ∧ i = ls) → s5.2.1 a i = st.2.1 a i) → ∃ s, g_beginPredicate_74 (nI np) s5 = g_bpc (nI np) s ∧ qM st0 s (q_bng xs 130 p false).1 lv nest ns (np + 1) ne 3 ∧ s.2.1 40 np = bI (q_bng xs 130 p false).2 ∧ s.2.1 39 np = -1 ∧ s.2.1 52 lv = nI np ∧ qPL s ls lp np ∧ s.1 48 = st.1 48 ∧ s.1 49 = st.1 49 ∧ qSame st s (qPC lv ls lp np) := fun s5 k1 k2 k3 k4 k5 => by
    have g : ∀ k, k ≠ 31 → s5.1 k = st.1 k := fun k hk => by rw [k2, c1]; exact f k hk
    have N : qM st0 (mm_G s5 52 lv (nI np)) p lv nest ns (np + 1) ne 3 := ⟨k1.G (by unfold qarr; omega), (g 8 (by decide)).trans m2, (g 9 (by decide)).trans m3, (g 24 (by decide)).trans m4, by show s5.1 31 = _; rw [k2, c1]; exact fF_s, (g 43 (by decide)).trans m6, (g 45 (by decide)).trans m7, (g 46 (by decide)).trans m8, (g 47 (by decide)).trans m9⟩
    have v40 : (mm_G s5 52 lv (nI np)).2.1 40 np = bI false := by rw [fG_n (by decide), k3 40 (by omega) (by omega), c40]; rfl
    obtain ⟨s, a1, a2, a3, a4, a5, a6⟩ := rq_bng b hnp 130 mF p false (mm_G s5 52 lv (nI np)) hp (by omega) (by unfold mF; omega) N v40
    refine ⟨s, ?_, a2, a3, ?_, ?_, ?_, a4.trans (g 48 (by decide)), a5.trans (g 49 (by decide)), fun a i h => ?_⟩
    · rw [← a1]
      unfold g_beginPredicate_74
      rw [show s5.1 45 = nI lv from (g 45 (by decide)).trans m7, mp_ix (by omega) (by decide)]
      rfl
    · rw [a6 39 np (by omega), fG_n (by decide), k3 39 (by omega) (by omega), c39]
    · rw [a6 52 lv (by omega), fG_s]
    · unfold qPL at k4 ⊢
      cases lp with
      | some l => simp only [] at k4 ⊢; rw [a6 39 l (by omega), fG_n (by decide)]; exact k4
      | none => simp only [] at k4 ⊢; rw [a6 29 ls (by omega), fG_n (by decide)]; exact k4
    · unfold qPC at h
      rw [a6 a i (by omega), fG_c (by omega)]
      exact k5 a i (by omega) (fun w => h (Or.inr (Or.inl w))) (fun w => h (Or.inr (Or.inr (Or.inl w))))
  have e1 : g_beginPredicate st = (mm_ld (s4.2.1 52) 5 (s4.1 45) (fun v6 => (if 0 ≤ v6 then (mm_ld (s4.2.1 52) 5 (s4.1 45) (fun v7 => (mm_ix 65 v7 (fun j9 => mm_lt (mm_G s4 39 j9 (nI np)) (fun st8 => (g_beginPredicate_74 (nI np) st8)))))) else (mm_ld (s4.2.1 51) 5 (s4.1 45) (fun v38 => (mm_ix 130 v38 (fun j40 => mm_lt (mm_G s4 29 j40 (nI np)) (fun st39 => (g_beginPredicate_74 (nI np) st39))))))))) := by
    unfold g_beginPredicate
    rw [m5, nI_1]
    simp only [mm_lt]
    rw [mp_ix hnp (by decide), mp_ix hnp (by decide), show vp_nar .boolean (0 : Int32) = 0 by decide, hs4]
  rw [e1, show s4.1 45 = nI lv by rw [c1]; exact (f 45 (by decide)).trans m7, mp_ld (by omega) (by decide), show s4.2.1 52 lv = st.2.1 52 lv from cs 52 lv (by omega), h52]
  cases lp with
  | some l =>
    have hl2 := hlp l rfl
    rw [if_pos (show (0 : Int32) ≤ nI l from nI_le (a := 0) (Nat.zero_le _) (by omega)), mp_ld (by omega) (by decide), show s4.2.1 52 lv = st.2.1 52 lv from cs 52 lv (by omega), h52]
    simp only []
    rw [mp_ix (by omega) (by decide)]
    exact fin (mm_G s4 39 l (nI np)) (q4.G (by unfold qarr; omega)) rfl (fun a h1 h2 => fG_c (by omega)) fG_s (fun a i h1 h2 _ => by rw [fG_c (fun w => h2 ⟨w.1, by rw [w.2]⟩)]; exact cs a i h1)
  | none =>
    rw [if_neg (show ¬ (0 : Int32) ≤ -1 by decide), mp_ld (by omega) (by decide), show s4.2.1 51 lv = st.2.1 51 lv from cs 51 lv (by omega), h51, mp_ix (by omega) (by decide)]
    exact fin (mm_G s4 29 ls (nI np)) (q4.G (by unfold qarr; omega)) rfl (fun a h1 h2 => by rw [fG_n (by omega)]) fG_s (fun a i h1 _ h3 => by rw [fG_c (fun w => h3 ⟨w.1, rfl, w.2⟩)]; exact cs a i h1)
end QQ6
-- paths in the reference: what a predicate is
section QQ7
variable {st0 st : mT} {xs : List Nat} {p lv nest ns np ne : Nat}
/-- only the predicate's own cells and the next level's change -/
def qOC (id lv : Nat) (a i : Nat) : Prop := (32 ≤ a ∧ a ≤ 38 ∧ i = id) ∨ ((a = 50 ∨ a = 51) ∧ i = lv + 1)
theorem rq_attr (b : md_buf st0 xs) (hp : p < xs.length) {id : Nat} (hid : id < 65) (M : qM st0 st p lv nest ns np ne 4) : (a_let xs (p + 1) = 0 → mq (g_attributePredicate (nI id) st) (fun s => qFr st0 s ∧ s.1 9 = nI (p + 1))) ∧ (a_let xs (p + 1) ≠ 0 → (xs.getD (p + 1 + a_let xs (p + 1)) 0 ≠ 61 → mq (g_attributePredicate (nI id) st) (fun s => qM st0 s (p + 1 + a_let xs (p + 1)) lv nest ns np ne 4 ∧ s.2.1 32 id = nI 2 ∧ rTx xs (s.2.1 34 id) (s.2.1 35 id) ((xs.drop (p + 1)).take (a_let xs (p + 1))) ∧ s.1 48 = st.1 48 ∧ s.1 49 = st.1 49 ∧ qSame st s (qOC id lv))) ∧ (xs.getD (p + 1 + a_let xs (p + 1)) 0 = 61 → (∀ e, q_str xs (p + 1 + a_let xs (p + 1) + 1) = .inl e → e ≤ xs.length ∧ mq (g_attributePredicate (nI id) st) (fun s => qFr st0 s ∧ s.1 9 = nI e)) ∧ ∀ q t, q_str xs (p + 1 + a_let xs (p + 1) + 1) = .inr (q, t) → p < q ∧ q ≤ xs.length ∧ mq (g_attributePredicate (nI id) st) (fun s => qM st0 s q lv nest ns np ne 4 ∧ s.2.1 32 id = nI 3 ∧ rTx xs (s.2.1 34 id) (s.2.1 35 id) ((xs.drop (p + 1)).take (a_let xs (p + 1))) ∧ rTx xs (s.2.1 36 id) (s.2.1 37 id) t ∧ s.1 48 = st.1 48 ∧ s.1 49 = st.1 49 ∧ qSame st s (qOC id lv)))) := by
  have hl := b.2.2.1
  obtain ⟨m1, m2, m3, m4, m5, m6, m7, m8, m9⟩ := M
  have bs := m1.buf b
  have l6 := (a_let_small (xs := xs) (p := p + 1)).1
  have lle := a_let_le (xs := xs) (p := p + 1) (by omega)
  have ln := len_tk (xs := xs) (p := p + 1) (n := a_let xs (p + 1)) lle
  have lc := getD_lt bs.2.2.2 (p + 1 + a_let xs (p + 1))
  have c61 : nI (xs.getD (p + 1 + a_let xs (p + 1)) 0) = 61 ↔ xs.getD (p + 1 + a_let xs (p + 1)) 0 = 61 := nI_eq (b := 61) (by omega) (by decide)
  -- behind the name
  have e25 : ∀ s : mT, md_buf s xs → s.1 8 = nI p → g_attributePredicate_25 (nI id) (nI (a_let xs (p + 1))) s = (if xs.getD (p + 1 + a_let xs (p + 1)) 0 = 61 then g_attributePredicate_89 (nI id) 1 3 (nI id) (mm_F (mm_G (mm_G s 34 id (nI (p + 1))) 35 id (nI (a_let xs (p + 1)))) 8 (nI (p + 1 + a_let xs (p + 1)))) else g_attributePredicate_89 (nI id) 0 2 (nI id) (mm_F (mm_G (mm_G s 34 id (nI (p + 1))) 35 id (nI (a_let xs (p + 1)))) 8 (nI (p + 1 + a_let xs (p + 1))))) := fun s hb h8 => by
    have hb2 : md_buf (mm_F (mm_G (mm_G s 34 id (nI (p + 1))) 35 id (nI (a_let xs (p + 1)))) 8 (nI (p + 1 + a_let xs (p + 1)))) xs := ⟨(fF_n (by decide)).trans hb.1, hb.2⟩
    unfold g_attributePredicate_25
    rw [mp_ix hid (by decide)]
    simp only [mm_lt]
    rw [mp_ix hid (by decide), h8, nI_1, show (mm_G (mm_G s 34 id (nI (p + 1))) 35 id (nI (a_let xs (p + 1)))).1 8 = nI p from h8, nI_1, nI_add, show (mm_F (mm_G (mm_G s 34 id (nI (p + 1))) 35 id (nI (a_let xs (p + 1)))) 8 (nI (p + 1 + a_let xs (p + 1)))).1 8 = nI (p + 1 + a_let xs (p + 1)) from fF_s, mp_look hb2 (by omega), Option.bind_some]
    unfold g_attributePredicate_74
    by_cases q : xs.getD (p + 1 + a_let xs (p + 1)) 0 = 61
    · rw [if_pos (c61.mpr q), if_neg (by decide), if_pos q]
    · rw [if_neg (fun w => q (c61.mp w)), if_pos rfl, if_neg q]
  unfold g_attributePredicate
  rw [m2, nI_1, mp_letters bs (by omega), Option.bind_some]
  simp only []
  rw [m2, nI_1]
  refine ⟨fun q0 => ?_, fun q0 => ?_⟩
  · rw [if_pos (show nI (a_let xs (p + 1)) = 0 by rw [q0]; rfl), rm_err bs m3 (by omega), Option.bind_some, e25 _ ((m1.F (k := 9) (by unfold qfld; omega)).buf b) ((fF_n (by decide)).trans m2)]
    have w1 : qFr st0 (mm_F (mm_G (mm_G (mm_F st 9 (nI (p + 1))) 34 id (nI (p + 1))) 35 id (nI (a_let xs (p + 1)))) 8 (nI (p + 1 + a_let xs (p + 1)))) := (((m1.F (by unfold qfld; omega)).G (by unfold qarr; omega)).G (by unfold qarr; omega)).F (by unfold qfld; omega)
    have w9 : (mm_F (mm_G (mm_G (mm_F st 9 (nI (p + 1))) 34 id (nI (p + 1))) 35 id (nI (a_let xs (p + 1)))) 8 (nI (p + 1 + a_let xs (p + 1)))).1 9 = nI (p + 1) := (fF_n (by decide)).trans (fF_s (st := st) (k := 9))
    have w8 : (mm_F (mm_G (mm_G (mm_F st 9 (nI (p + 1))) 34 id (nI (p + 1))) 35 id (nI (a_let xs (p + 1)))) 8 (nI (p + 1 + a_let xs (p + 1)))).1 8 = nI (p + 1 + a_let xs (p + 1)) := fF_s
    generalize mm_F (mm_G (mm_G (mm_F st 9 (nI (p + 1))) 34 id (nI (p + 1))) 35 id (nI (a_let xs (p + 1)))) 8 (nI (p + 1 + a_let xs (p + 1))) = s2 at w1 w9 w8
    split
    · unfold g_attributePredicate_89
      rw [mp_ix hid (by decide)]
      simp only [mm_lt]
      rw [if_neg (by decide)]
      rw [show (mm_G s2 32 id 3).1 8 = nI (p + 1 + a_let xs (p + 1)) from w8, nI_1, bind_id]
      have w3 : qFr st0 (mm_F (mm_G s2 32 id 3) 8 (nI (p + 1 + a_let xs (p + 1) + 1))) := (w1.G (by unfold qarr; omega)).F (by unfold qfld; omega)
      have w39 : (mm_F (mm_G s2 32 id 3) 8 (nI (p + 1 + a_let xs (p + 1) + 1))).1 9 = nI (p + 1) := (fF_n (by decide)).trans w9
      have w38 : (mm_F (mm_G s2 32 id 3) 8 (nI (p + 1 + a_let xs (p + 1) + 1))).1 8 = nI (p + 1 + a_let xs (p + 1) + 1) := fF_s
      -- a failed reading reads no string
      unfold g_string
      rw [w38, rm_must1 (w3.buf b) (by omega) (by rw [w39]; exact nI_le (a := 0) (Nat.zero_le _) (by omega)), Option.bind_some, if_pos rfl]
      exact mq_some ⟨w3, w39⟩
    · unfold g_attributePredicate_89
      rw [mp_ix hid (by decide)]
      exact mq_some ⟨w1.G (by unfold qarr; omega), w9⟩
  · rw [if_neg (show ¬ nI (a_let xs (p + 1)) = 0 from fun w => q0 ((nI_eq (b := 0) (by omega) (by decide)).mp w)), e25 st bs m2]
    have f : ∀ k, k ≠ 8 → (mm_F (mm_G (mm_G st 34 id (nI (p + 1))) 35 id (nI (a_let xs (p + 1)))) 8 (nI (p + 1 + a_let xs (p + 1)))).1 k = st.1 k := fun k hk => fF_n hk
    have N : qM st0 (mm_F (mm_G (mm_G st 34 id (nI (p + 1))) 35 id (nI (a_let xs (p + 1)))) 8 (nI (p + 1 + a_let xs (p + 1)))) (p + 1 + a_let xs (p + 1)) lv nest ns np ne 4 := ⟨((m1.G (by unfold qarr; omega)).G (by unfold qarr; omega)).F (by unfold qfld; omega), fF_s, (f 9 (by decide)).trans m3, (f 24 (by decide)).trans m4, (f 31 (by decide)).trans m5, (f 43 (by decide)).trans m6, (f 45 (by decide)).trans m7, (f 46 (by decide)).trans m8, (f 47 (by decide)).trans m9⟩
    have v34 : (mm_F (mm_G (mm_G st 34 id (nI (p + 1))) 35 id (nI (a_let xs (p + 1)))) 8 (nI (p + 1 + a_let xs (p + 1)))).2.1 34 id = nI (p + 1) := by
      show (mm_G (mm_G st 34 id (nI (p + 1))) 35 id (nI (a_let xs (p + 1)))).2.1 34 id = _
      rw [fG_n (by decide), fG_s]
    have v35 : (mm_F (mm_G (mm_G st 34 id (nI (p + 1))) 35 id (nI (a_let xs (p + 1)))) 8 (nI (p + 1 + a_let xs (p + 1)))).2.1 35 id = nI (a_let xs (p + 1)) := fG_s (st := mm_G st 34 id (nI (p + 1))) (a := 35)
    have vs : ∀ a i, ¬ ((a = 34 ∨ a = 35) ∧ i = id) → (mm_F (mm_G (mm_G st 34 id (nI (p + 1))) 35 id (nI (a_let xs (p + 1)))) 8 (nI (p + 1 + a_let xs (p + 1)))).2.1 a i = st.2.1 a i := fun a i h => by
      show (mm_G (mm_G st 34 id (nI (p + 1))) 35 id (nI (a_let xs (p + 1)))).2.1 a i = _
      rw [fG_c (fun w => h ⟨Or.inr w.1, w.2⟩), fG_c (fun w => h ⟨Or.inl w.1, w.2⟩)]
    have v48 := f 48 (by decide)
    have v49 := f 49 (by decide)
    have rt : ∀ s : mT, s.2.1 34 id = nI (p + 1) → s.2.1 35 id = nI (a_let xs (p + 1)) → rTx xs (s.2.1 34 id) (s.2.1 35 id) ((xs.drop (p + 1)).take (a_let xs (p + 1))) := fun s h1 h2 => ⟨p + 1, h1, by rw [ln]; exact h2, by rw [ln]; exact lle, by rw [ln]⟩
    generalize mm_F (mm_G (mm_G st 34 id (nI (p + 1))) 35 id (nI (a_let xs (p + 1)))) 8 (nI (p + 1 + a_let xs (p + 1))) = s2 at N v34 v35 vs v48 v49
    obtain ⟨n1, n2, n3, n4, n5, n6, n7, n8, n9⟩ := N
    refine ⟨fun q => ?_, fun q => ?_⟩
    · rw [if_neg q]
      unfold g_attributePredicate_89
      rw [mp_ix hid (by decide)]
      refine mq_some ⟨⟨n1.G (by unfold qarr; omega), n2, n3, n4, n5, n6, n7, n8, n9⟩, fG_s, rt _ (by rw [fG_n (by decide)]; exact v34) (by rw [fG_n (by decide)]; exact v35), v48, v49, fun a i h => ?_⟩
      unfold qOC at h
      rw [fG_c (by omega)]
      exact vs a i (by omega)
    · rw [if_pos q]
      have h61 := getD_pos q (by decide)
      have e89 : g_attributePredicate_89 (nI id) 1 3 (nI id) s2 = g_string (nI id) (mm_F (mm_G s2 32 id (nI 3)) 8 (nI (p + 1 + a_let xs (p + 1) + 1))) := by
        unfold g_attributePredicate_89
        rw [mp_ix hid (by decide)]
        simp only [mm_lt]
        rw [if_neg (by decide), show (mm_G s2 32 id 3).1 8 = nI (p + 1 + a_let xs (p + 1)) from n2, nI_1, bind_id]
        rfl
      have g : ∀ k, k ≠ 8 → (mm_F (mm_G s2 32 id (nI 3)) 8 (nI (p + 1 + a_let xs (p + 1) + 1))).1 k = s2.1 k := fun k hk => fF_n hk
      have N2 : qM st0 (mm_F (mm_G s2 32 id (nI 3)) 8 (nI (p + 1 + a_let xs (p + 1) + 1))) (p + 1 + a_let xs (p + 1) + 1) lv nest ns np ne 4 := ⟨(n1.G (by unfold qarr; omega)).F (by unfold qfld; omega), fF_s, (g 9 (by decide)).trans n3, (g 24 (by decide)).trans n4, (g 31 (by decide)).trans n5, (g 43 (by decide)).trans n6, (g 45 (by decide)).trans n7, (g 46 (by decide)).trans n8, (g 47 (by decide)).trans n9⟩
      have S := rq_str b hid (by omega) N2
      rw [e89]
      refine ⟨fun e he => ?_, fun q1 t he => ?_⟩
      · obtain ⟨le, s, a1, a2, a3, _⟩ := S.1 e he
        exact ⟨le, s, a1, a2, a3⟩
      · obtain ⟨l1, l2, s, a1, a2, a3, a4, a5⟩ := S.2 q1 t he
        refine ⟨by omega, l2, s, a1, a2, ?_, ?_, a3, (a4 48 (by decide)).trans ((g 48 (by decide)).trans v48), (a4 49 (by decide)).trans ((g 49 (by decide)).trans v49), fun a i h => ?_⟩
        · rw [a5 32 id (by omega)]
          exact fG_s (st := s2) (a := 32)
        · refine rt s ?_ ?_
          · rw [a5 34 id (by omega)]
            show (mm_G s2 32 id (nI 3)).2.1 34 id = _
            rw [fG_n (by decide)]
            exact v34
          · rw [a5 35 id (by omega)]
            show (mm_G s2 32 id (nI 3)).2.1 35 id = _
            rw [fG_n (by decide)]
            exact v35
        · unfold qOC at h
          rw [a5 a i (by omega)]
          show (mm_G s2 32 id (nI 3)).2.1 a i = _
          rw [fG_c (by omega)]
          exact vs a i (by omega)
end QQ7
