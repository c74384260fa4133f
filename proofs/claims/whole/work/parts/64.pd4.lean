-- remove: the reference
def md_dr (g : Nat → Int32) (d : Nat → Nat) (n f t : Nat) : Nat → Int32 := upd (mp_ds (mp_dz g d f (t - f)) f t n) 5160 (nI (n - (t - f)))
theorem md_row_cut {g : Nat → Int32} {s f t i : Nat} {D : Nat → nd} {ps : Int32} (r : md_row g s (D (nd_ix f t i)) ps) : md_row g s (nd_cut D f t i) ps := r
theorem md_cut {g : Nat → Int32} {mk n f t : Nat} {d : Nat → Nat} {D : Nat → nd} (M : md g n d D) (ok : nd_ok mk n D) (hft : f ≤ t) (ht : t ≤ n) (cl : nd_cl n D f t) : md (md_dr g d n f t) (n - (t - f)) (fun i => d (nd_ix f t i)) (nd_cut D f t) := by
  obtain ⟨a1, a2, a3, a4, a5, a6⟩ := M
  have low : ∀ i, i < 5120 → md_dr g d n f t i = mp_dz g d f (t - f) i := fun i hi => by
    unfold md_dr
    rw [upd_n (by omega)]
    unfold mp_ds
    rw [if_neg (by omega)]
  refine ⟨by omega, upd_s, fun i hi => ?_, fun i j hi hj e => nd_ix_inj (a4 _ _ (nd_ix_lt hft ht hi).1 (nd_ix_lt hft ht hj).1 e), fun i hi => ?_, fun s hs hq => ?_⟩
  · have hx := nd_ix_lt hft ht hi
    refine ⟨(a3 _ hx.1).1, ?_⟩
    have e1 : mp_dz g d f (t - f) (5120 + nd_ix f t i) = nI (d (nd_ix f t i)) := by
      rw [mp_dz_o _ _ (fun j hj => by have := (a3 (f + j) (by omega)).1; omega)]
      exact (a3 _ hx.1).2
    rw [← e1]
    unfold md_dr
    rw [upd_n (by omega)]
    unfold mp_ds nd_ix
    by_cases q : i < f
    · rw [if_neg (by omega), if_pos q]
    · rw [if_pos (by omega), if_neg q, Nat.add_assoc]
  · have hx := nd_ix_lt hft ht hi
    have hd := (a3 _ hx.1).1
    have hps : md_ps (fun i => d (nd_ix f t i)) (nd_cut D f t i) = md_ps d (D (nd_ix f t i)) := by
      unfold md_ps
      show (match ((D (nd_ix f t i)).2.2.1).map (nd_sh f t) with | some p => nI (d (nd_ix f t p)) | none => -1) = _
      cases e : (D (nd_ix f t i)).2.2.1 with
      | none => rfl
      | some p =>
        show nI (d (nd_ix f t (nd_sh f t p))) = nI (d p)
        rw [nd_ix_sh hft (cl _ hx.1 hx.2 p e)]
    rw [hps]
    refine md_row_cut (md_row_congr (fun o ho => ?_) ok hx.1 (a5 _ hx.1))
    show md_dr g d n f t (128 * d (nd_ix f t i) + o) = g (128 * d (nd_ix f t i) + o)
    rw [low _ (by omega), mp_dz_o _ _ (fun j hj => ?_)]
    have hj2 := (a3 (f + j) (by omega)).1
    have hne : d (nd_ix f t i) ≠ d (f + j) := fun e => by
      have := a4 _ _ hx.1 (show f + j < n by omega) e
      omega
    omega
  · rw [low _ (by omega)]
    by_cases w : ∃ j, j < t - f ∧ d (f + j) = s
    · obtain ⟨j, hj, e⟩ := w
      rw [← e]
      exact mp_dz_s _ _ hj
    · rw [mp_dz_o _ _ (fun j hj e => w ⟨j, hj, by omega⟩)]
      refine a6 s hs (fun k hk e => ?_)
      by_cases q : f ≤ k ∧ k < t
      · exact w ⟨k - f, by omega, by rw [show f + (k - f) = k by omega]; exact e⟩
      · have hc : k < f ∨ t ≤ k := by omega
        refine hq (nd_sh f t k) ?_ (by show d (nd_ix f t (nd_sh f t k)) = s; rw [nd_ix_sh hft hc]; exact e)
        unfold nd_sh
        by_cases w2 : k < f
        · rw [if_pos w2]; omega
        · rw [if_neg w2]; omega
theorem mp_a_a {st : mT} {g g2 : Nat → Int32} : mp_a (mp_a st g) g2 = mp_a st g2 := by
  unfold mp_a
  refine Prod.ext rfl (Prod.ext ?_ rfl)
  funext j
  by_cases q : j = 0
  · simp [q]
  · simp [q]
section PD4
variable {st : mT} {mk n m : Nat} {D D2 : Nat → nd} {xs : List Nat} {rs : List Int32} {ch : Int32} {d : Nat → Nat}
theorem mp_r216 {g : Nat → Int32} (M : md g n d D) {f t : Nat} (hft : f ≤ t) (ht : t ≤ n) : g_remove_216 (nI f) (nI t) (mp_a st g) = some (nI (t - f), mm_F (mp_a st (md_dr g d n f t)) 5 (st.1 5 + 1)) := by
  unfold g_remove_216
  have h := mp_drop (st := mp_a st g) (n := n) (d := d) ⟨M.1, M.2.1, M.2.2.1⟩ hft ht
  rw [mp_bd h, nI_sub hft, mp_a_a]
  rfl
/-- the text of row s2 behind the first c characters of row s1 -/
theorem mp_r163 {g : Nat → Int32} {s1 s2 c : Nat} {ts : List Nat} (hs1 : s1 < 40) (hs2 : s2 < 40) (hne : s1 ≠ s2) (hc : c + ts.length ≤ 20) (ht : md_txt g (128 * s2 + 8) ts) (x8 x9 : Int32) : ∀ (r fu k : Nat), k + r = ts.length → r < fu → g_remove_163 fu (nI s1) (nI s2) 1 (nI c) (nI ts.length) x8 x9 (nI k) (mp_a st (mp_wt g (128 * s1 + 8 + c) ts k)) = g_remove_216 x8 x9 (mp_a st (upd (mp_wt g (128 * s1 + 8 + c) ts ts.length) (128 * s1 + 3) (nI (c + ts.length)))) := by
  intro r
  induction r with
  | zero =>
    intro fu k hk hr
    obtain ⟨fu, rfl⟩ : ∃ f, fu = f + 1 := ⟨fu - 1, by omega⟩
    obtain rfl : k = ts.length := by omega
    have h3 : g_set (nI s1) 3 (nI (c + ts.length)) (mp_a st (mp_wt g (128 * s1 + 8 + c) ts ts.length)) = some (mm_G (mp_a st (mp_wt g (128 * s1 + 8 + c) ts ts.length)) 0 (128 * s1 + 3) (nI (c + ts.length))) := mp_set _ (o := 3) _ hs1 (by decide)
    unfold g_remove_163
    rw [if_pos (nI_le (Nat.le_refl _) (by omega)), if_neg (by decide), nI_add, mp_bd h3, mp_a_G]
  | succ r ih =>
    intro fu k hk hr
    obtain ⟨fu, rfl⟩ : ∃ f, fu = f + 1 := ⟨fu - 1, by omega⟩
    have h1 : g_f (nI s2) (8 + nI k) (mp_a st (mp_wt g (128 * s1 + 8 + c) ts k)) = some (nI (ts.getD k 0), mp_a st (mp_wt g (128 * s1 + 8 + c) ts k)) := by
      rw [show (8 : Int32) + nI k = nI (8 + k) from nI_add 8 k, mp_f _ hs2 (by omega), mp_a_g, mp_wt_o _ _ (by omega), ← Nat.add_assoc, ht k (by omega)]
    have h3 : g_set (nI s1) (8 + nI c + nI k) (nI (ts.getD k 0)) (mp_a st (mp_wt g (128 * s1 + 8 + c) ts k)) = some (mm_G (mp_a st (mp_wt g (128 * s1 + 8 + c) ts k)) 0 (128 * s1 + (8 + c + k)) (nI (ts.getD k 0))) := by
      rw [show (8 : Int32) + nI c + nI k = nI (8 + c + k) by rw [show (8 : Int32) = nI 8 from rfl, nI_add, nI_add]]
      exact mp_set _ _ hs1 (by omega)
    unfold g_remove_163
    rw [if_neg (nI_ge (by omega) (by omega)), mp_bd h1]
    simp only []
    rw [mp_bd h3, mp_a_G, nI_1, show 128 * s1 + (8 + c + k) = 128 * s1 + 8 + c + k by omega]
    exact ih fu (k + 1) (by omega) (by omega)
theorem pm_remove (I : mPIC st mk n D m D2 xs rs ch) (ok : nd_ok mk n D) (pre : nd_pre n D) (x : Int32) : (a_at n D x = none → g_remove x st = some (-1000, st)) ∧ (∀ k, a_at n D x = some k → (D k).2.2.1 = none → g_remove x st = some (-2000, st))
    ∧ (∀ k i, a_at n D x = some k → (D k).2.2.1 ≠ none → a_join n D k = some i → 20 < (D i).2.2.2.2.2.length + (D (a_end n D k)).2.2.2.2.2.length → g_remove x st = some (-2000, st))
    ∧ (∀ k i, a_at n D x = some k → (D k).2.2.1 ≠ none → a_join n D k = some i → (D i).2.2.2.2.2.length + (D (a_end n D k)).2.2.2.2.2.length ≤ 20 → ∃ st2, g_remove x st = some (nI (a_end n D k + 1 - k), st2) ∧ mPIC st2 mk (n - (a_end n D k + 1 - k)) (nd_cut (nd_set D i ((D i).2.2.2.2.2 ++ (D (a_end n D k)).2.2.2.2.2)) k (a_end n D k + 1)) m D2 xs rs (ch + 1))
    ∧ (∀ k, a_at n D x = some k → (D k).2.2.1 ≠ none → a_join n D k = none → ∃ st2, g_remove x st = some (nI (a_end n D k - k), st2) ∧ mPIC st2 mk (n - (a_end n D k - k)) (nd_cut D k (a_end n D k)) m D2 xs rs (ch + 1)) := by
  have I0 := I
  obtain ⟨⟨d, M⟩, rI⟩ := I
  have hn := M.1
  have hch : st.1 5 = ch := rI.2.2.1
  have hD := md_D M
  refine ⟨fun e => ?_, fun k e hp => ?_, ?_⟩
  · unfold g_remove
    rw [mp_bd (mp_pl_none hD (by rw [md_at M]; exact e)), if_pos (show (-1 : Int32) < 0 by decide)]
    unfold g_remove_19
    rw [if_neg (show ¬ (0 : Int32) ≤ -1 by decide)]
  · have hk := (a_at_some e).1
    have hdk := (M.2.2.1 k hk).1
    unfold g_remove
    rw [mp_bd (mp_pl_some hD (by rw [md_at M]; exact e)), if_neg (nI_pos (by omega)), mp_bd (mp_fpc hD hk), md_pc M hk]
    unfold md_ps
    rw [hp]
    simp only []
    rw [if_neg (by decide)]
    unfold g_remove_19
    rw [if_pos (nI_pos' (by omega))]
  · -- the node has a parent
    have main : ∀ k p, a_at n D x = some k → (D k).2.2.1 = some p → g_remove x st = (match a_join n D k with | some i => g_remove_83 (nI (d k)) (nI (d i)) (nI (d (a_end n D k))) 1 st | none => g_remove_118 (nI (d k)) 0 0 0 0 0 st) ∧ True := by
      intro k p e hp
      refine ⟨?_, trivial⟩
      have hk := (a_at_some e).1
      have hpk := (ok.2 k hk).2.2.1 p hp
      have hdk := (M.2.2.1 k hk).1
      have hdp := (M.2.2.1 p (by omega)).1
      have z82 : ∀ x3 x4 : Int32, g_remove_82 (nI (d k)) x3 x4 st = g_remove_118 (nI (d k)) 0 0 0 0 0 st := fun x3 x4 => by
        unfold g_remove_82 g_remove_83
        rw [if_pos rfl]
        unfold g_remove_100
        rw [if_pos rfl]
        unfold g_remove_118
        rw [if_pos (show (0 : Int32) + 0 ≤ 20 by decide), if_pos (show (0 : Int32) + 0 ≤ 20 by decide), mp_bd (mp_order hD hk M.2.2.2.1), mp_bd (mp_order hD hk M.2.2.2.1)]
        simp only []
        rw [mp_bd (mp_gend hD (md_P M ok) hk), mp_bd (mp_gend hD (md_P M ok) hk)]
        simp only [if_true]
        unfold g_remove_157
        show g_remove_163 (5999 + 1) _ _ _ _ _ _ _ _ _ = g_remove_163 (5999 + 1) _ _ _ _ _ _ _ _ _
        unfold g_remove_163
        rw [if_pos (show (0 : Int32) ≤ 0 by decide), if_pos rfl, if_pos (show (0 : Int32) ≤ 0 by decide), if_pos rfl]
      have eL : mp_lst (fun j => decide (mp_pc st d j = mp_pc st d k)) k = a_left D k := mp_lst_congr k (fun j hj => md_pe M ok (by omega) hk)
      have eR : mp_fst (fun j => decide (mp_pc st d j = mp_pc st d k)) (n - (k + 1)) (k + 1) = if a_end n D k < n ∧ (D (a_end n D k)).2.2.1 = some p then some (a_end n D k) else none := by
        rw [← a_right2 ok pre hk hp]
        refine mp_fst_congr _ _ (fun j h1 h2 => ?_)
        rw [md_pe M ok (by omega) hk, hp]
      have hL : ∀ i, a_left D k = some i → i < n := fun i hi => by have := (mp_lst_some k hi).1; omega
      have kd2 : ∀ i, i < n → (nI (D i).2.1 = 2 ↔ (D i).2.1 = 2) := fun i hi => nI_eq (b := 2) (by have := (ok.2 i hi).2.1; omega) (by decide)
      have hf1 : ∀ i, i < n → g_f (nI (d i)) 1 st = some (nI (D i).2.1, st) := fun i hi => by rw [← (M.2.2.2.2.1 i hi).2.1]; exact mp_f st (o := 1) (M.2.2.1 i hi).1 (by decide)
      unfold g_remove
      rw [mp_bd (mp_pl_some hD (by rw [md_at M]; exact e)), if_neg (nI_pos (by omega)), mp_bd (mp_fpc hD hk), md_pc M hk]
      unfold md_ps
      rw [hp]
      simp only []
      rw [if_pos (nI_pos' (by omega)), mp_bd (mp_sibL hD hk M.2.2.2.1), eL]
      simp only []
      rw [mp_bd (mp_sibR hD hk M.2.2.2.1), eR]
      simp only []
      unfold a_join
      rw [hp]
      cases eL2 : a_left D k with
      | none =>
        rw [show mp_sl d none = -1 from rfl, if_pos (show (-1 : Int32) < 0 by decide), z82]
      | some i =>
        have hi := hL i eL2
        have hdi := (M.2.2.1 i hi).1
        rw [show mp_sl d (some i) = nI (d i) from rfl, if_neg (nI_pos (by omega))]
        by_cases q3 : a_end n D k < n ∧ (D (a_end n D k)).2.2.1 = some p
        · have hde := (M.2.2.1 _ q3.1).1
          rw [if_pos q3, show mp_sl d (some (a_end n D k)) = nI (d (a_end n D k)) from rfl, if_neg (nI_pos (by omega)), mp_bd (hf1 i hi)]
          simp only []
          by_cases q2 : (D i).2.1 = 2
          · rw [if_pos ((kd2 i hi).mpr q2), mp_bd (hf1 _ q3.1)]
            simp only []
            by_cases q4 : (D (a_end n D k)).2.1 = 2
            · rw [if_pos ((kd2 _ q3.1).mpr q4), if_pos ⟨q2, q3.1, q3.2, q4⟩]
            · rw [if_neg (fun w => q4 ((kd2 _ q3.1).mp w)), if_neg (fun w => q4 w.2.2.2), z82]
          · rw [if_neg (fun w => q2 ((kd2 i hi).mp w)), if_neg (fun w => q2 w.1), z82]
        · rw [if_neg q3, show mp_sl d none = -1 from rfl]
          rw [if_pos (show (-1 : Int32) < 0 by decide)]
          simp only []
          rw [if_neg (fun w => q3 ⟨w.2.1, w.2.2.1⟩), z82]
    have j83 : ∀ k i, k < n → i < n → a_end n D k < n → g_remove_83 (nI (d k)) (nI (d i)) (nI (d (a_end n D k))) 1 st = g_remove_118 (nI (d k)) (nI (d i)) (nI (d (a_end n D k))) 1 (nI (D i).2.2.2.2.2.length) (nI (D (a_end n D k)).2.2.2.2.2.length) st := by
      intro k i hk hi he
      have hf3 : ∀ i, i < n → g_f (nI (d i)) 3 st = some (nI (D i).2.2.2.2.2.length, st) := fun i hi => by rw [← (M.2.2.2.2.1 i hi).2.2.2.1]; exact mp_f st (o := 3) (M.2.2.1 i hi).1 (by decide)
      unfold g_remove_83
      rw [if_neg (by decide), mp_bd (hf3 i hi)]
      simp only []
      unfold g_remove_100
      rw [if_neg (by decide), mp_bd (hf3 _ he)]
    have aj : ∀ k i, k < n → a_join n D k = some i → i < k ∧ a_end n D k < n ∧ (D (a_end n D k)).2.1 = 2 := by
      intro k i hk e
      unfold a_join at e
      cases eL2 : a_left D k with
      | none => rw [eL2] at e; cases e
      | some j =>
        rw [eL2] at e
        simp only [] at e
        by_cases w : (D j).2.1 = 2 ∧ a_end n D k < n ∧ (D (a_end n D k)).2.2.1 = (D k).2.2.1 ∧ (D (a_end n D k)).2.1 = 2
        · rw [if_pos w] at e
          cases e
          exact ⟨(mp_lst_some k eL2).1, w.2.1, w.2.2.2⟩
        · rw [if_neg w] at e; cases e
    refine ⟨fun k i e hpn ej hl => ?_, fun k i e hpn ej hl => ?_, fun k e hpn ej => ?_⟩
    · obtain ⟨p, hp⟩ := Option.ne_none_iff_exists'.mp hpn
      have hk := (a_at_some e).1
      have h1 := aj k i hk ej
      have oi := ok.2 i (by omega)
      have oe := ok.2 _ h1.2.1
      rw [(main k p e hp).1, ej]
      simp only []
      rw [j83 k i hk (by omega) h1.2.1]
      unfold g_remove_118
      rw [nI_add, if_neg (show ¬ nI _ ≤ 20 from nI_ge (a := 20) hl (by omega))]
    · obtain ⟨p, hp⟩ := Option.ne_none_iff_exists'.mp hpn
      have hk := (a_at_some e).1
      have h1 := aj k i hk ej
      have hi : i < n := by omega
      have oi := ok.2 i hi
      have oe := ok.2 _ h1.2.1
      have hes := mp_end_spec (pa := fun k => (D k).2.2.1) hk
      have hea : k < a_end n D k := hes.1
      have hne : d i ≠ d (a_end n D k) := fun w => by have := M.2.2.2.1 i _ hi h1.2.1 w; omega
      have ri := M.2.2.2.2.1 i hi
      have re := M.2.2.2.2.1 _ h1.2.1
      have M2 : md (upd (mp_wt (st.2.1 0) (128 * d i + 8 + (D i).2.2.2.2.2.length) (D (a_end n D k)).2.2.2.2.2 (D (a_end n D k)).2.2.2.2.2.length) (128 * d i + 3) (nI ((D i).2.2.2.2.2.length + (D (a_end n D k)).2.2.2.2.2.length))) n d (nd_set D i ((D i).2.2.2.2.2 ++ (D (a_end n D k)).2.2.2.2.2)) := by
        refine md_set M ok hi (by rw [List.length_append]; exact hl) (by rw [upd_s, List.length_append]) (fun j hj => ?_) (fun j hj1 hj2 => ?_)
        · rw [List.length_append] at hj
          rw [upd_n (by omega), List.getD_eq_getElem?_getD]
          by_cases w : j < (D i).2.2.2.2.2.length
          · rw [mp_wt_o _ _ (by omega), List.getElem?_append_left w, ← List.getD_eq_getElem?_getD]
            exact ri.2.2.2.2.2.2.1 j w
          · rw [List.getElem?_append_right (by omega), ← List.getD_eq_getElem?_getD, show 128 * d i + 8 + j = 128 * d i + 8 + (D i).2.2.2.2.2.length + (j - (D i).2.2.2.2.2.length) by omega]
            exact mp_wt_s _ _ (by omega)
        · rw [upd_n hj1, mp_wt_o _ _ (by omega)]
      have ok2 := nd_set_ok (k := i) (t := (D i).2.2.2.2.2 ++ (D (a_end n D k)).2.2.2.2.2) ok (by rw [List.length_append]; exact hl) (fun c hc => (List.mem_append.mp hc).elim (oi.2.2.2.2.2.2.2.1 c) (oe.2.2.2.2.2.2.2.1 c))
      have pre2 := nd_set_pre (k := i) (t := (D i).2.2.2.2.2 ++ (D (a_end n D k)).2.2.2.2.2) pre
      have hkd : ∀ j, (nd_set D i ((D i).2.2.2.2.2 ++ (D (a_end n D k)).2.2.2.2.2) j).2.1 = (D j).2.1 := fun j => by
        unfold nd_set
        by_cases w : j = i
        · rw [if_pos w]
        · rw [if_neg w]
      have cl2 := nd_end_cl1 ok2 pre2 hk (by rw [nd_set_pa]; exact h1.2.1) (by rw [nd_set_pa, hkd]; show (D (a_end n D k)).2.1 ≠ 1; omega)
      rw [nd_set_pa] at cl2
      have M3 := md_cut (t := a_end n D k + 1) M2 ok2 (by omega) (by omega) cl2
      refine ⟨_, ?_, mPIC_ch (ch := ch) (mPIC_a I0 ⟨_, M3⟩)⟩
      rw [(main k p e hp).1, ej]
      simp only []
      rw [j83 k i hk hi h1.2.1]
      unfold g_remove_118
      rw [nI_add, if_pos (show nI _ ≤ 20 from nI_le (b := 20) hl (by decide)), mp_bd (mp_order hD hk M.2.2.2.1)]
      simp only []
      rw [mp_bd (mp_gend hD (md_P M ok) hk)]
      simp only []
      rw [if_neg (by decide)]
      unfold g_remove_157
      rw [show mp_end (fun k => (D k).2.2.1) n k = a_end n D k from rfl, nI_1]
      have h9 := mp_r163 (st := st) (g := st.2.1 0) (M.2.2.1 i hi).1 (M.2.2.1 _ h1.2.1).1 hne (by omega) re.2.2.2.2.2.2.1 (nI k) (nI (a_end n D k + 1)) (D (a_end n D k)).2.2.2.2.2.length mF 0 (by omega) (by unfold mF; omega)
      rw [show mp_wt (st.2.1 0) (128 * d i + 8 + (D i).2.2.2.2.2.length) (D (a_end n D k)).2.2.2.2.2 0 = st.2.1 0 from rfl, mp_a_id] at h9
      rw [show (0 : Int32) = nI 0 from rfl, h9, mp_r216 M2 (by omega) (by omega), hch]
    · obtain ⟨p, hp⟩ := Option.ne_none_iff_exists'.mp hpn
      have hk := (a_at_some e).1
      have hes := mp_end_spec (pa := fun k => (D k).2.2.1) hk
      have M3 := md_cut M ok (Nat.le_of_lt hes.1) hes.2.1 (nd_end_cl ok pre hk)
      refine ⟨_, ?_, mPIC_ch (ch := ch) (mPIC_a I0 ⟨_, M3⟩)⟩
      rw [(main k p e hp).1, ej]
      simp only []
      unfold g_remove_118
      rw [if_pos (show (0 : Int32) + 0 ≤ 20 by decide), mp_bd (mp_order hD hk M.2.2.2.1)]
      simp only []
      rw [mp_bd (mp_gend hD (md_P M ok) hk)]
      simp only [if_true]
      unfold g_remove_157
      show g_remove_163 (5999 + 1) _ _ _ _ _ _ _ _ _ = _
      unfold g_remove_163
      rw [if_pos (show (0 : Int32) ≤ 0 by decide), if_pos rfl, Int32.add_zero]
      have h9 := mp_r216 (st := st) M (Nat.le_of_lt hes.1) hes.2.1
      rw [mp_a_id] at h9
      rw [h9, hch]
      rfl
end PD4
