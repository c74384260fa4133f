-- commit and crash in the reference: one array copied into another
def mp_cp (st : mT) (a b k : Nat) : mT := (st.1, (fun j => if j = b then (fun i => if i < k then st.2.1 a i else st.2.1 b i) else st.2.1 j), st.2.2)
theorem mp_cp0 {st : mT} {a b : Nat} : mp_cp st a b 0 = st := by
  unfold mp_cp
  refine Prod.ext rfl (Prod.ext ?_ rfl)
  funext j
  by_cases h : j = b
  · subst h
    show (if j = j then _ else _) = _
    rw [if_pos rfl]
    rfl
  · show (if j = b then _ else _) = _
    rw [if_neg h]
theorem mp_cpa {st : mT} {a b k i : Nat} (hab : a ≠ b) : (mp_cp st a b k).2.1 a i = st.2.1 a i := by
  show (if a = b then _ else st.2.1 a) i = _
  rw [if_neg hab]
theorem mp_cpS {st : mT} {a b k : Nat} : mm_G (mp_cp st a b k) b k (st.2.1 a k) = mp_cp st a b (k + 1) := by
  unfold mm_G mp_cp
  refine Prod.ext rfl (Prod.ext ?_ rfl)
  funext j
  by_cases h : j = b
  · subst h
    show (if j = j then upd (if j = j then _ else _) k _ else _) = (if j = j then _ else _)
    rw [if_pos rfl, if_pos rfl, if_pos rfl]
    funext i
    unfold upd
    by_cases hi : i = k
    · subst hi
      simp
    · by_cases h2 : i < k
      · simp [hi, h2, Nat.lt_succ_of_lt h2]
      · have h3 : ¬ i < k + 1 := by omega
        simp [hi, h2, h3]
  · show (if j = b then _ else if j = b then _ else _) = (if j = b then _ else _)
    rw [if_neg h, if_neg h, if_neg h]
theorem mp_saveL {st : mT} : ∀ (m fu k : Nat), k + m = 5161 → m < fu → g_save_2 fu (nI k) (mp_cp st 0 1 k) = some (mm_F (mp_cp st 0 1 5161) 5 0) := by
  intro m
  induction m with
  | zero =>
    intro fu k hk hf
    obtain ⟨f, rfl⟩ : ∃ f, fu = f + 1 := ⟨fu - 1, by omega⟩
    obtain rfl : k = 5161 := by omega
    unfold g_save_2
    rw [if_pos (show (5161 : Int32) ≤ nI 5161 by decide)]
    rfl
  | succ m ih =>
    intro fu k hk hf
    obtain ⟨f, rfl⟩ : ∃ f, fu = f + 1 := ⟨fu - 1, by omega⟩
    unfold g_save_2
    rw [if_neg (show ¬ (5161 : Int32) ≤ nI k from nI_ge (a := k) (b := 5161) (by omega) (by decide)), mp_ld (by omega) (by decide), mp_ix (by omega) (by decide), mp_cpa (by decide)]
    have := ih f (k + 1) (by omega) (by omega)
    rw [← nI_1, ← mp_cpS] at this
    exact this
theorem mp_save (st : mT) : g_save st = some (mm_F (mp_cp st 0 1 5161) 5 0) := by
  have := mp_saveL (st := st) 5161 mF 0 (by omega) (by unfold mF; omega)
  rw [mp_cp0] at this
  exact this
theorem mp_commit (st : mT) : g_commit st = some (st.1 5, mm_F (mp_cp st 0 1 5161) 5 0) := by
  unfold g_commit
  rw [mp_bd (mp_save st)]
theorem mp_crashL {st : mT} (c : Int32) : ∀ (m fu k : Nat), k + m = 5161 → m < fu → g_crash_7 fu c (nI k) (mp_cp st 1 0 k) = some (c, mm_F (mm_F (mp_cp st 1 0 5161) 5 0) 7 0) := by
  intro m
  induction m with
  | zero =>
    intro fu k hk hf
    obtain ⟨f, rfl⟩ : ∃ f, fu = f + 1 := ⟨fu - 1, by omega⟩
    obtain rfl : k = 5161 := by omega
    unfold g_crash_7
    rw [if_pos (show (5161 : Int32) ≤ nI 5161 by decide)]
    rfl
  | succ m ih =>
    intro fu k hk hf
    obtain ⟨f, rfl⟩ : ∃ f, fu = f + 1 := ⟨fu - 1, by omega⟩
    unfold g_crash_7
    rw [if_neg (show ¬ (5161 : Int32) ≤ nI k from nI_ge (a := k) (b := 5161) (by omega) (by decide)), mp_ld (by omega) (by decide), mp_ix (by omega) (by decide), mp_cpa (by decide)]
    have := ih f (k + 1) (by omega) (by omega)
    rw [← nI_1, ← mp_cpS] at this
    exact this
theorem mp_crash (st : mT) : g_crash st = some (st.1 5, mm_F (mm_F (mp_cp st 1 0 5161) 5 0) 7 0) := by
  have := mp_crashL (st := st) (st.1 5) 5161 mF 0 (by omega) (by unfold mF; omega)
  rw [mp_cp0] at this
  exact this
/-- a letter typed -/
theorem mp_type {st : mT} {k : Nat} (hk : k ≤ 120) (h : st.1 7 = nI k) (y : Int32) : g_type y st = some (if y < 32 then (0, st) else if 126 < y then (0, st) else if k < 120 then (1, mm_F (mm_G st 6 k (vp_nar .char y)) 7 (nI (k + 1))) else (0, st)) := by
  unfold g_type
  by_cases h1 : y < 32
  · rw [if_pos h1, if_pos h1]
    rfl
  · rw [if_neg h1, if_neg h1]
    by_cases h2 : 126 < y
    · rw [if_pos h2, if_pos h2]
      rfl
    · rw [if_neg h2, if_neg h2, h]
      by_cases h3 : k < 120
      · rw [if_pos (show nI k < (120 : Int32) from nI_lt (b := 120) h3 (by decide)), if_pos h3, mp_ix h3 (by decide)]
        show some (1, mm_F (mm_G st 6 k (vp_nar .char y)) 7 ((mm_G st 6 k (vp_nar .char y)).1 7 + 1)) = _
        rw [show (mm_G st 6 k (vp_nar .char y)).1 7 = nI k from h, nI_1]
      · rw [if_neg (show ¬ nI k < (120 : Int32) from nI_nlt (b := 120) (by omega) (by omega)), if_neg h3]
        rfl
theorem mp_node {st : mT} {n : Nat} {d : Nat → Nat} {pa : Nat → Option Nat} (h : mp_D st n d) (hP : mp_P st n d pa) (hi : ∀ a b, a < n → b < n → d a = d b → a = b) (i y : Int32) : g_node i y st = some ((match mp_at st d n i with
    | none => -1000
    | some j => if y = 0 then (match pa j with | none => -1 | some p => st.2.1 0 (128 * d p) - 1) else if y = 1 then nI (mp_cn (fun k => decide (mp_pc st d k = nI (d j))) n) else if y = 2 then nI (mp_cn (fun k => decide (mp_pc st d k = mp_pc st d j)) j) else if y = 3 then st.2.1 0 (128 * d j + 5) else if y = 4 then st.2.1 0 (128 * d j + 3) else if y = 5 then st.2.1 0 (128 * d j + 4) else if y = 6 then nI j else -1000), st) := by
  unfold g_node
  cases e : mp_at st d n i with
  | none => rw [mp_bd (mp_pl_none h e), if_neg (show ¬ (0 : Int32) ≤ -1 by decide)]
  | some j =>
    have hn := (mp_at_lt e).1
    have hj := (h.2.2 j hn).1
    rw [mp_bd (mp_pl_some h e), if_pos (nI_pos' (by omega))]
    by_cases y0 : y = 0
    · rw [if_pos y0, mp_bd (mp_fpc h hn)]
      show (if 0 ≤ mp_pc st d j then _ else _) = some ((if y = 0 then _ else _), st)
      rw [if_pos y0]
      cases e2 : pa j with
      | none =>
        have h3 : mp_pc st d j = -1 := (hP j hn).2 e2
        rw [if_neg (by rw [h3]; decide)]
      | some p =>
        obtain ⟨hp, h3⟩ := (hP j hn).1 p e2
        have h4 := (h.2.2 p (by omega)).1
        have h5 : mp_pc st d j = nI (d p) := h3
        rw [if_pos (by rw [h5]; exact nI_pos' (by omega)), mp_bd (mp_fpc h hn), mp_bd (show g_f (mp_pc st d j) 0 st = some (st.2.1 0 (128 * d p), st) from by rw [h5]; exact mp_f st (o := 0) h4 (by decide))]
    · rw [if_neg y0]
      show _ = some ((if y = 0 then _ else _), st)
      rw [if_neg y0]
      by_cases y1 : y = 1
      · rw [if_pos y1, if_pos y1, mp_bd (mp_kids1 h (nI (d j)))]
      · rw [if_neg y1, if_neg y1]
        by_cases y2 : y = 2
        · rw [if_pos y2, if_pos y2, mp_bd (mp_kids0 h hn hi)]
        · rw [if_neg y2, if_neg y2]
          by_cases y3 : y = 3
          · rw [if_pos y3, if_pos y3, mp_bd (show g_f (nI (d j)) 5 st = some (st.2.1 0 (128 * d j + 5), st) from mp_f st (o := 5) hj (by decide))]
          · rw [if_neg y3, if_neg y3]
            by_cases y4 : y = 4
            · rw [if_pos y4, if_pos y4, mp_bd (show g_f (nI (d j)) 3 st = some (st.2.1 0 (128 * d j + 3), st) from mp_f st (o := 3) hj (by decide))]
            · rw [if_neg y4, if_neg y4]
              by_cases y5 : y = 5
              · rw [if_pos y5, if_pos y5, mp_bd (show g_f (nI (d j)) 4 st = some (st.2.1 0 (128 * d j + 4), st) from mp_f st (o := 4) hj (by decide))]
              · rw [if_neg y5, if_neg y5]
                by_cases y6 : y = 6
                · rw [if_pos y6, if_pos y6, mp_bd (mp_order h hn hi)]
                · rw [if_neg y6, if_neg y6]
