-- commit and crash in the reference: one array copied into another
def mp_cp (st : mT) (a b k : Nat) : mT := (st.1, (fun j => if j = b then (fun i => if i < k then st.2.1 a i else st.2.1 b i) else st.2.1 j), st.2.2)
theorem mp_cp0 {st : mT} {a b : Nat} : mp_cp st a b 0 = st := by
  unfold mp_cp
  refine Prod.ext rfl (Prod.ext ?_ rfl)
  funext j
  by_cases h : j = b
  · subst h
    show (if j = j then _ else _) = _
    rw [if_pos rfl]
    rfl
  · show (if j = b then _ else _) = _
    rw [if_neg h]
theorem mp_cpa {st : mT} {a b k i : Nat} (hab : a ≠ b) : (mp_cp st a b k).2.1 a i = st.2.1 a i := by
  show (if a = b then _ else st.2.1 a) i = _
  rw [if_neg hab]
theorem mp_cpS {st : mT} {a b k : Nat} : mm_G (mp_cp st a b k) b k (st.2.1 a k) = mp_cp st a b (k + 1) := by
  unfold mm_G mp_cp
  refine Prod.ext rfl (Prod.ext ?_ rfl)
  funext j
  by_cases h : j = b
  · subst h
    show (if j = j then upd (if j = j then _ else _) k _ else _) = (if j = j then _ else _)
    rw [if_pos rfl, if_pos rfl, if_pos rfl]
    funext i
    unfold upd
    by_cases hi : i = k
    · subst hi
      simp
    · by_cases h2 : i < k
      · simp [hi, h2, Nat.lt_succ_of_lt h2]
      · have h3 : ¬ i < k + 1 := by omega
        simp [hi, h2, h3]
  · show (if j = b then _ else if j = b then _ else _) = (if j = b then _ else _)
    rw [if_neg h, if_neg h, if_neg h]
theorem mp_saveL {st : mT} : ∀ (m fu k : Nat), k + m = 5161 → m < fu → g_save_2 fu (nI k) (mp_cp st 0 1 k) = some (mm_F (mp_cp st 0 1 5161) 5 0) := by
  intro m
  induction m with
  | zero =>
    intro fu k hk hf
    obtain ⟨f, rfl⟩ : ∃ f, fu = f + 1 := ⟨fu - 1, by omega⟩
    obtain rfl : k = 5161 := by omega
    unfold g_save_2
    rw [if_pos (show (5161 : Int32) ≤ nI 5161 by decide)]
    rfl
  | succ m ih =>
    intro fu k hk hf
    obtain ⟨f, rfl⟩ : ∃ f, fu = f + 1 := ⟨fu - 1, by omega⟩
    unfold g_save_2
    rw [if_neg (show ¬ (5161 : Int32) ≤ nI k from nI_ge (a := k) (b := 5161) (by omega) (by decide)), mp_ld (by omega) (by decide), mp_ix (by omega) (by decide), mp_cpa (by decide)]
    have := ih f (k + 1) (by omega) (by omega)
    rw [← nI_1, ← mp_cpS] at this
    exact this
theorem mp_save (st : mT) : g_save st = some (mm_F (mp_cp st 0 1 5161) 5 0) := by
  have := mp_saveL (st := st) 5161 mF 0 (by omega) (by unfold mF; omega)
  rw [mp_cp0] at this
  exact this
theorem mp_commit (st : mT) : g_commit st = some (st.1 5, mm_F (mp_cp st 0 1 5161) 5 0) := by
  unfold g_commit
  rw [mp_bd (mp_save st)]
theorem mp_crashL {st : mT} (c : Int32) : ∀ (m fu k : Nat), k + m = 5161 → m < fu → g_crash_7 fu c (nI k) (mp_cp st 1 0 k) = some (c, mm_F (mm_F (mp_cp st 1 0 5161) 5 0) 7 0) := by
  intro m
  induction m with
  | zero =>
    intro fu k hk hf
    obtain ⟨f, rfl⟩ : ∃ f, fu = f + 1 := ⟨fu - 1, by omega⟩
    obtain rfl : k = 5161 := by omega
    unfold g_crash_7
    rw [if_pos (show (5161 : Int32) ≤ nI 5161 by decide)]
    rfl
  | succ m ih =>
    intro fu k hk hf
    obtain ⟨f, rfl⟩ : ∃ f, fu = f + 1 := ⟨fu - 1, by omega⟩
    unfold g_crash_7
    rw [if_neg (show ¬ (5161 : Int32) ≤ nI k from nI_ge (a := k) (b := 5161) (by omega) (by decide)), mp_ld (by omega) (by decide), mp_ix (by omega) (by decide), mp_cpa (by decide)]
    have := ih f (k + 1) (by omega) (by omega)
    rw [← nI_1, ← mp_cpS] at this
    exact this
theorem mp_crash (st : mT) : g_crash st = some (st.1 5, mm_F (mm_F (mp_cp st 1 0 5161) 5 0) 7 0) := by
  have := mp_crashL (st := st) (st.1 5) 5161 mF 0 (by omega) (by unfold mF; omega)
  rw [mp_cp0] at this
  exact this
/-- a letter typed -/
theorem mp_type {st : mT} {k : Nat} (hk : k ≤ 120) (h : st.1 7 = nI k) (y : Int32) : g_type y st = some (if y < 32 then (0, st) else if 126 < y then (0, st) else if k < 120 then (1, mm_F (mm_G st 6 k (vp_nar .char y)) 7 (nI (k + 1))) else (0, st)) := by
  unfold g_type
  by_cases h1 : y < 32
  · rw [if_pos h1, if_pos h1]
    rfl
  · rw [if_neg h1, if_neg h1]
    by_cases h2 : 126 < y
    · rw [if_pos h2, if_pos h2]
      rfl
    · rw [if_neg h2, if_neg h2, h]
      by_cases h3 : k < 120
      · rw [if_pos (show nI k < (120 : Int32) from nI_lt (b := 120) h3 (by decide)), if_pos h3, mp_ix h3 (by decide)]
        show some (1, mm_F (mm_G st 6 k (vp_nar .char y)) 7 ((mm_G st 6 k (vp_nar .char y)).1 7 + 1)) = _
        rw [show (mm_G st 6 k (vp_nar .char y)).1 7 = nI k from h, nI_1]
      · rw [if_neg (show ¬ nI k < (120 : Int32) from nI_nlt (b := 120) (by omega) (by omega)), if_neg h3]
        rfl
