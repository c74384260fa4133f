-- replace: the reference
/-- what the reference's text is -/
def md_buf (st : mT) (xs : List Nat) : Prop := st.1 7 = nI xs.length ∧ md_txt (st.2.1 6) 0 xs ∧ xs.length ≤ 120 ∧ ∀ c ∈ xs, c < 128
theorem mp_look {st : mT} {xs : List Nat} (b : md_buf st xs) {k : Nat} (hk : k < 2 ^ 31) : g_look (nI k) st = some (nI (xs.getD k 0), st) := by
  obtain ⟨b1, b2, b3, b4⟩ := b
  unfold g_look g_look_21
  rw [if_neg (nI_pos hk), b1]
  by_cases q : xs.length ≤ k
  · rw [if_pos (nI_le q hk), List.getD_eq_getElem?_getD, List.getElem?_eq_none q]
    rfl
  · rw [if_neg (nI_ge (by omega) (by omega)), mp_ld (by omega) (by decide)]
    have := b2 k (by omega)
    rw [Nat.zero_add] at this
    rw [this]
    have h1 := getD_lt b4 k
    unfold mm_cc
    rw [if_pos (show ((nI (xs.getD k 0)).toUInt32 % 65536).toInt32 = nI (xs.getD k 0) from nI_char (by omega))]
theorem mp_small {st : mT} {c : Nat} (hc : c < 128) : g_small (nI c) st = some (if a_small c then 1 else 0, st) := by
  unfold g_small g_small_16
  by_cases q1 : c < 97
  · rw [if_pos (show nI c < 97 from nI_lt (b := 97) q1 (by decide)), if_neg (by simp [a_small]; omega)]
  rw [if_neg (show ¬ nI c < 97 from nI_nlt (b := 97) (by omega) (by omega))]
  by_cases q2 : 122 < c
  · rw [if_pos (show 122 < nI c from nI_lt (a := 122) q2 (by omega)), if_neg (by simp [a_small]; omega)]
  rw [if_neg (show ¬ 122 < nI c from nI_nlt (a := 122) (by omega) (by decide)), if_pos (by simp [a_small]; omega)]
/-- how many small letters stand from p on, 6 at most -/
def a_let (xs : List Nat) (p : Nat) : Nat := match mp_fst (fun k => !a_small (xs.getD (p + k) 0)) 6 0 with
  | some j => j
  | none => 6
theorem mp_lettersL {st : mT} {xs : List Nat} (b : md_buf st xs) {p : Nat} (hp : p < 2 ^ 30) : ∀ (r fu k : Nat), k + r = 6 → r < fu → g_letters_2 fu (nI p) (nI k) st = some (nI (match mp_fst (fun k => !a_small (xs.getD (p + k) 0)) r k with | some j => j | none => 6), st) := by
  intro r
  induction r with
  | zero =>
    intro fu k hk hr
    obtain ⟨fu, rfl⟩ : ∃ f, fu = f + 1 := ⟨fu - 1, by omega⟩
    obtain rfl : k = 6 := by omega
    unfold g_letters_2
    rw [if_pos (show (6 : Int32) ≤ nI 6 from nI_le (a := 6) (Nat.le_refl _) (by decide))]
    rfl
  | succ r ih =>
    intro fu k hk hr
    obtain ⟨fu, rfl⟩ : ∃ f, fu = f + 1 := ⟨fu - 1, by omega⟩
    have hl := getD_lt b.2.2.2 (p + k)
    unfold g_letters_2
    rw [if_neg (show ¬ (6 : Int32) ≤ nI k from nI_ge (b := 6) (by omega) (by decide)), nI_add, mp_bd (mp_look b (by omega)), mp_bd (mp_small hl)]
    cases q : a_small (xs.getD (p + k) 0) with
    | false =>
      simp only [Bool.false_eq_true, if_false, if_true]
      unfold g_letters_27
      simp only [mp_fst, q, Bool.not_false, if_true]
    | true =>
      simp only [if_true]
      rw [if_neg (by decide), nI_1, ih fu (k + 1) (by omega) (by omega)]
      simp only [mp_fst, q, Bool.not_true, Bool.false_eq_true, if_false]
theorem mp_letters {st : mT} {xs : List Nat} (b : md_buf st xs) {p : Nat} (hp : p < 2 ^ 30) : g_letters (nI p) st = some (nI (a_let xs p), st) := by
  unfold g_letters a_let
  exact mp_lettersL b hp 6 mF 0 (by omega) (by unfold mF; omega)
/-- the first of more places -/
theorem mp_fst_le {P : Nat → Bool} : ∀ (m r k : Nat), mp_fst P (m + r) k = match mp_fst P m k with | some j => some j | none => mp_fst P r (k + m) := by
  intro m
  induction m with
  | zero => intro r k; simp [mp_fst]
  | succ m ih =>
    intro r k
    rw [show m + 1 + r = (m + r) + 1 by omega]
    show (if P k then some k else mp_fst P (m + r) (k + 1)) = match (if P k then some k else mp_fst P m (k + 1)) with | some j => some j | none => mp_fst P r (k + (m + 1))
    cases P k with
    | true => rfl
    | false =>
      simp only [Bool.false_eq_true, if_false]
      rw [ih r (k + 1), show k + 1 + m = k + (m + 1) by omega]
/-- all letters, and no more than six -/
theorem a_let_name {xs : List Nat} (h0 : 0 < xs.length) : a_let xs 0 = xs.length ↔ a_name xs = true := by
  unfold a_let a_name
  simp only [Nat.zero_add, decide_eq_true_eq]
  by_cases q : xs.length ≤ 6
  · obtain ⟨r, hr⟩ : ∃ r, 6 = xs.length + r := ⟨6 - xs.length, by omega⟩
    rw [show mp_fst (fun k => !a_small (xs.getD k 0)) 6 0 = mp_fst (fun k => !a_small (xs.getD k 0)) (xs.length + r) 0 by rw [hr], mp_fst_le]
    cases e : mp_fst (fun k => !a_small (xs.getD k 0)) xs.length 0 with
    | some j =>
      have := (mp_fst_some _ _ e).1
      simp only [reduceCtorEq, and_false, iff_false]
      omega
    | none =>
      simp only [Nat.zero_add, h0, q, and_self, iff_true]
      cases r with
      | zero =>
        simp only [mp_fst]
        omega
      | succ r =>
        have : a_small (xs.getD xs.length 0) = false := by
          rw [List.getD_eq_getElem?_getD, List.getElem?_eq_none (Nat.le_refl _)]
          rfl
        simp only [mp_fst, this, Bool.not_false, if_true]
  · have : (match mp_fst (fun k => !a_small (xs.getD k 0)) 6 0 with | some j => j | none => 6) ≤ 6 := by
      cases e : mp_fst (fun k => !a_small (xs.getD k 0)) 6 0 with
      | some j =>
        have := (mp_fst_some _ _ e).1
        simp only []
        omega
      | none => exact Nat.le_refl _
    constructor
    · intro k; omega
    · intro k; exact absurd k.2.1 q
/-- a text written into a row -/
def mp_wt (g : Nat → Int32) (o : Nat) (xs : List Nat) : Nat → Nat → Int32
  | 0 => g
  | k + 1 => upd (mp_wt g o xs k) (o + k) (nI (xs.getD k 0))
theorem mp_wt_s {g : Nat → Int32} {o : Nat} {xs : List Nat} : ∀ (k j : Nat), j < k → mp_wt g o xs k (o + j) = nI (xs.getD j 0) := by
  intro k
  induction k with
  | zero => intro j hj; omega
  | succ k ih =>
    intro j hj
    unfold mp_wt
    by_cases q : j = k
    · subst q; exact upd_s
    · rw [upd_n (by omega)]; exact ih j (by omega)
theorem mp_wt_o {g : Nat → Int32} {o : Nat} {xs : List Nat} : ∀ (k i : Nat), (i < o ∨ o + k ≤ i) → mp_wt g o xs k i = g i := by
  intro k
  induction k with
  | zero => intro i _; rfl
  | succ k ih =>
    intro i hi
    unfold mp_wt
    rw [upd_n (by omega)]
    exact ih i (by omega)
theorem md_buf_a {st : mT} {g : Nat → Int32} {xs : List Nat} (b : md_buf st xs) : md_buf (mp_a st g) xs := by
  obtain ⟨b1, b2, b3, b4⟩ := b
  exact ⟨b1, b2, b3, b4⟩
theorem mp_r199 {st : mT} : g_replace_199 1 st = some (1, mm_F st 7 0) := by
  show mm_zc 1 (some (1, mm_F st 7 0)) = _
  unfold mm_zc
  rw [if_neg (by decide), if_pos rfl]
theorem mp_r199z {st : mT} : g_replace_199 0 st = some (0, mm_F st 7 0) := by
  show mm_zc 0 (some (0, mm_F st 7 0)) = _
  unfold mm_zc
  rw [if_pos rfl]
theorem mp_rep140 {st : mT} {g : Nat → Int32} {xs : List Nat} (b : md_buf st xs) (hx : xs.length ≤ 20) {s : Nat} (hs : s < 40) : ∀ (r fu k : Nat), k + r = xs.length → r < fu → g_replace_140 fu (nI s) 1 (nI k) (mp_a st (mp_wt g (128 * s + 8) xs k)) = some (1, mm_F (mm_F (mp_a st (upd (mp_wt g (128 * s + 8) xs xs.length) (128 * s + 3) (nI xs.length))) 5 (st.1 5 + 1)) 7 0) := by
  intro r
  induction r with
  | zero =>
    intro fu k hk hr
    obtain ⟨fu, rfl⟩ : ∃ f, fu = f + 1 := ⟨fu - 1, by omega⟩
    obtain rfl : k = xs.length := by omega
    unfold g_replace_140
    rw [mp_a_1, b.1, if_pos (nI_le (Nat.le_refl _) (by omega))]
    unfold g_replace_175
    rw [if_neg (by decide), mp_a_1, b.1]
    have h3 : g_set (nI s) 3 (nI xs.length) (mp_a st (mp_wt g (128 * s + 8) xs xs.length)) = some (mm_G (mp_a st (mp_wt g (128 * s + 8) xs xs.length)) 0 (128 * s + 3) (nI xs.length)) := mp_set _ (o := 3) _ hs (by decide)
    rw [mp_bd h3, mp_a_G]
    show g_replace_199 1 _ = _
    rw [mp_r199]
    rfl
  | succ r ih =>
    intro fu k hk hr
    obtain ⟨fu, rfl⟩ : ∃ f, fu = f + 1 := ⟨fu - 1, by omega⟩
    unfold g_replace_140
    rw [mp_a_1, b.1, if_neg (nI_ge (by omega) (by omega)), if_neg (by decide), mp_bd (mp_look (md_buf_a b) (by omega))]
    have h3 : g_set (nI s) (8 + nI k) (nI (xs.getD k 0)) (mp_a st (mp_wt g (128 * s + 8) xs k)) = some (mm_G (mp_a st (mp_wt g (128 * s + 8) xs k)) 0 (128 * s + (8 + k)) (nI (xs.getD k 0))) := by
      rw [show (8 : Int32) + nI k = nI (8 + k) from nI_add 8 k]
      exact mp_set _ _ hs (by omega)
    rw [mp_bd h3, mp_a_G, nI_1]
    have := ih fu (k + 1) (by omega) (by omega)
    rw [← this, show 128 * s + (8 + k) = 128 * s + 8 + k by omega]
    rfl
theorem mp_rep0 {st : mT} {s k : Int32} : g_replace_140 mF s 0 k st = some (0, mm_F st 7 0) := by
  show g_replace_140 (5999 + 1) s 0 k st = _
  unfold g_replace_140 g_replace_175
  rw [if_pos rfl, mp_r199z]
  by_cases q : st.1 7 ≤ k
  · rw [if_pos q]
  · rw [if_neg q, if_pos rfl]
theorem mp_rep67z {st : mT} {s k : Int32} {fu : Nat} (hf : 0 < fu) : g_replace_67 fu s 0 k st = some (0, mm_F st 7 0) := by
  obtain ⟨fu, rfl⟩ : ∃ f, fu = f + 1 := ⟨fu - 1, by omega⟩
  unfold g_replace_67 g_replace_137
  rw [mp_rep0, if_pos rfl]
  by_cases q : st.1 7 ≤ k
  · rw [if_pos q]
  · rw [if_neg q]
theorem mp_rep67 {st : mT} {xs : List Nat} (b : md_buf st xs) {s : Nat} (hs : s < 40) (hk3 : st.2.1 0 (128 * s + 1) = 3) : ∀ (r fu k : Nat), k + r = xs.length → r + 1 < fu → g_replace_67 fu (nI s) 1 (nI k) st = if mp_fst (a_bad xs) r k = none then g_replace_140 mF (nI s) 1 0 st else some (0, mm_F st 7 0) := by
  intro r
  induction r with
  | zero =>
    intro fu k hk hr
    obtain ⟨fu, rfl⟩ : ∃ f, fu = f + 1 := ⟨fu - 1, by omega⟩
    have hb := b.2.2.1
    unfold g_replace_67 g_replace_137
    rw [b.1, if_pos (nI_le (by omega) (by omega)), if_pos (show mp_fst (a_bad xs) 0 k = none from rfl)]
  | succ r ih =>
    intro fu k hk hr
    obtain ⟨fu, rfl⟩ : ∃ f, fu = f + 1 := ⟨fu - 1, by omega⟩
    have hb := b.2.2.1
    have e45 : ∀ c : Nat, c < 128 → (nI c = 45 ↔ c = 45) := fun c h => nI_eq (b := 45) (by omega) (by decide)
    have l1 := getD_lt b.2.2.2 k
    have l2 := getD_lt b.2.2.2 (k + 1)
    have hF : g_f (nI s) 1 st = some (3, st) := by rw [← hk3]; exact mp_f st (o := 1) hs (by decide)
    have i1 := ih fu (k + 1) (by omega) (by omega)
    unfold g_replace_67
    rw [b.1, if_neg (nI_ge (by omega) (by omega)), if_neg (by decide), mp_bd hF]
    simp only [if_true]
    rw [mp_bd (mp_look b (by omega))]
    simp only []
    show _ = if (if a_bad xs k then some k else mp_fst (a_bad xs) r (k + 1)) = none then _ else _
    have e125 : g_replace_125 (g_replace_67 fu) (nI s) (nI k) st = g_replace_67 fu (nI s) 1 (nI (k + 1)) st := by
      unfold g_replace_125 g_replace_130
      rw [nI_1]
    have e129 : g_replace_129 (g_replace_67 fu) (nI s) (nI k) st = some (0, mm_F st 7 0) := by
      unfold g_replace_129 g_replace_130
      rw [mp_rep67z (by omega)]
    by_cases q1 : xs.getD k 0 = 45
    · rw [if_pos ((e45 _ l1).mpr q1), b.1, nI_1]
      by_cases q2 : k + 1 = xs.length
      · rw [if_pos (nI_le (by omega) (by omega)), e129, if_pos (show a_bad xs k = true from decide_eq_true ⟨q1, Or.inl q2⟩), if_neg (by simp)]
      · rw [if_neg (nI_ge (by omega) (by omega)), mp_bd (mp_look b (by omega))]
        simp only []
        by_cases q3 : xs.getD (k + 1) 0 = 45
        · rw [if_pos ((e45 _ l2).mpr q3), e129, if_pos (show a_bad xs k = true from decide_eq_true ⟨q1, Or.inr q3⟩), if_neg (by simp)]
        · rw [if_neg (fun q => q3 ((e45 _ l2).mp q)), e125, i1, if_neg (show ¬ a_bad xs k = true from fun q => (of_decide_eq_true q).2.elim q2 q3)]
    · rw [if_neg (fun q => q1 ((e45 _ l1).mp q)), e125, i1, if_neg (show ¬ a_bad xs k = true from fun q => q1 (of_decide_eq_true q).1)]
/-- the state with this text in row s -/
def mp_rt (st : mT) (s : Nat) (xs : List Nat) : mT := mp_a st (upd (mp_wt (st.2.1 0) (128 * s + 8) xs xs.length) (128 * s + 3) (nI xs.length))
theorem mp_replace {st : mT} {xs : List Nat} {n mk : Nat} {d : Nat → Nat} {D : Nat → nd} (M : md (st.2.1 0) n d D) (ok : nd_ok mk n D) (b : md_buf st xs) (x : Int32) : g_replace x st = match a_at n D x with
    | none => some (0, mm_F st 7 0)
    | some k => if a_may (D k).2.1 xs then some (1, mm_F (mm_F (mp_rt st (d k) xs) 5 (st.1 5 + 1)) 7 0) else some (0, mm_F st 7 0) := by
  have hb := b.2.2.1
  have z30 : ∀ s : Int32, g_replace_30 s st = some (0, mm_F st 7 0) := fun s => by
    unfold g_replace_30 g_replace_31 g_replace_64
    rw [if_pos rfl, mp_rep67z (by unfold mF; omega)]
  unfold g_replace
  cases e : a_at n D x with
  | none => rw [mp_bd (mp_pl_none (md_D M) (by rw [md_at M]; exact e)), if_pos (show (-1 : Int32) < 0 by decide), z30]
  | some k =>
    have hk := (a_at_some e).1
    have hs := (M.2.2.1 k hk).1
    have ho := (ok.2 k hk).2.1
    have hkd : st.2.1 0 (128 * d k + 1) = nI (D k).2.1 := (M.2.2.2.2.1 k hk).2.1
    rw [mp_bd (mp_pl_some (md_D M) (by rw [md_at M]; exact e)), if_neg (nI_pos (by omega))]
    simp only []
    rw [b.1]
    by_cases q0 : xs.length = 0
    · rw [if_pos (by rw [q0]; decide), z30, if_neg (fun q => by have := of_decide_eq_true q; omega)]
    rw [if_neg (show ¬ nI xs.length ≤ 0 from nI_ge (a := 0) (by omega) (by omega))]
    by_cases q20 : 20 < xs.length
    · rw [if_pos (show 20 < nI xs.length from nI_lt (a := 20) q20 (by omega)), z30, if_neg (fun q => by have := of_decide_eq_true q; omega)]
    rw [if_neg (show ¬ 20 < nI xs.length from nI_nlt (a := 20) (by omega) (by decide))]
    have good : g_replace_140 mF (nI (d k)) 1 0 st = some (1, mm_F (mm_F (mp_rt st (d k) xs) 5 (st.1 5 + 1)) 7 0) := by
      have := mp_rep140 (g := st.2.1 0) b (by omega) hs xs.length mF 0 (by omega) (by unfold mF; omega)
      rw [show mp_wt (st.2.1 0) (128 * d k + 8) xs 0 = st.2.1 0 from rfl, mp_a_id] at this
      exact this
    have hF : g_f (nI (d k)) 1 st = some (nI (D k).2.1, st) := by rw [← hkd]; exact mp_f st (o := 1) hs (by decide)
    have n67 : ¬ (D k).2.1 = 3 → g_replace_67 mF (nI (d k)) 1 0 st = g_replace_140 mF (nI (d k)) 1 0 st := fun q3 => by
      show g_replace_67 (5999 + 1) (nI (d k)) 1 0 st = _
      unfold g_replace_67
      rw [b.1, if_neg (show ¬ nI xs.length ≤ 0 from nI_ge (a := 0) (by omega) (by omega)), if_neg (by decide), mp_bd hF]
      simp only []
      rw [if_neg (show ¬ nI (D k).2.1 = 3 from fun q => q3 ((nI_eq (b := 3) (by omega) (by decide)).mp q))]
      rfl
    unfold g_replace_31
    rw [if_neg (by decide), mp_bd hF]
    simp only []
    by_cases q1 : (D k).2.1 = 1
    · have hL : g_letters 0 st = some (nI (a_let xs 0), st) := mp_letters b (p := 0) (by decide)
      rw [if_pos (show nI (D k).2.1 = 1 by rw [q1]; rfl), mp_bd hL]
      simp only []
      have hal : a_let xs 0 ≤ 6 := by
        unfold a_let
        cases e9 : mp_fst (fun k => !a_small (xs.getD (0 + k) 0)) 6 0 with
        | some j => have := (mp_fst_some _ _ e9).1; simp only []; omega
        | none => exact Nat.le_refl _
      rw [b.1]
      have em : a_may (D k).2.1 xs = true ↔ a_name xs = true := by
        unfold a_may
        rw [q1]
        simp only [decide_eq_true_eq]
        exact ⟨fun q => q.2.2.1 trivial, fun q => ⟨by omega, by omega, fun _ => q, fun k => absurd k (by decide)⟩⟩
      by_cases q2 : a_let xs 0 = xs.length
      · rw [if_pos (by rw [q2]), if_pos (em.mpr ((a_let_name (by omega)).mp q2))]
        unfold g_replace_63 g_replace_64
        rw [n67 (by omega), good]
      · rw [if_neg (fun q => q2 ((nI_eq (by omega) (by omega)).mp q)), if_neg (fun q => q2 ((a_let_name (by omega)).mpr (em.mp q)))]
        unfold g_replace_63 g_replace_64
        rw [mp_rep67z (by unfold mF; omega)]
    · rw [if_neg (show ¬ nI (D k).2.1 = 1 from fun q => q1 ((nI_eq (b := 1) (by omega) (by decide)).mp q))]
      unfold g_replace_64
      by_cases q3 : (D k).2.1 = 3
      · have := mp_rep67 b hs (by rw [hkd, q3]; rfl) xs.length mF 0 (by omega) (by unfold mF; omega)
        rw [show (nI 0 : Int32) = 0 from rfl] at this
        rw [this, good]
        have em : a_may (D k).2.1 xs = true ↔ mp_fst (a_bad xs) xs.length 0 = none := by
          unfold a_may
          rw [q3]
          simp only [decide_eq_true_eq]
          exact ⟨fun q => q.2.2.2 trivial, fun q => ⟨by omega, by omega, fun k => absurd k (by decide), fun _ => q⟩⟩
        by_cases q4 : mp_fst (a_bad xs) xs.length 0 = none
        · rw [if_pos q4, if_pos (em.mpr q4)]
        · rw [if_neg q4, if_neg (fun q => q4 (em.mp q))]
      · rw [n67 q3, good, if_pos (show a_may (D k).2.1 xs = true from decide_eq_true ⟨by omega, by omega, fun k => absurd k q1, fun k => absurd k q3⟩)]
