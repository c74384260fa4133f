-- replace over the pictures
theorem md_row_congr {g g2 : Nat → Int32} {s mk n k : Nat} {D : Nat → nd} {ps : Int32} (h : ∀ o, o < 128 → g2 (128 * s + o) = g (128 * s + o)) (ok : nd_ok mk n D) (hk : k < n) (r : md_row g s (D k) ps) : md_row g2 s (D k) ps := by
  have o := ok.2 k hk
  obtain ⟨b1, b2, b3, b4, b5, b6, b7, b8, b9⟩ := r
  have h0 := h 0 (by decide)
  rw [Nat.add_zero] at h0
  refine ⟨by rw [h0]; exact b1, by rw [h _ (by decide)]; exact b2, by rw [h _ (by decide)]; exact b3, by rw [h _ (by decide)]; exact b4, by rw [h _ (by decide)]; exact b5, by rw [h _ (by decide)]; exact b6, fun j hj => by rw [Nat.add_assoc, h _ (by omega), ← Nat.add_assoc]; exact b7 j hj, fun j hj => by rw [Nat.add_assoc, h _ (by omega), ← Nat.add_assoc]; exact b8 j hj, fun a ha => ?_⟩
  obtain ⟨c1, c2, c3, c4⟩ := b9 a ha
  have hq : (D k).2.2.2.2.1.getD a ([], []) ∈ (D k).2.2.2.2.1 := by
    rw [List.getD_eq_getElem?_getD, List.getElem?_eq_getElem ha]
    exact List.getElem_mem ha
  have hl := o.2.2.2.2.2.1 _ hq
  have ha3 := o.2.2.2.2.1
  exact ⟨by rw [h _ (by omega)]; exact c1, fun j hj => by rw [Nat.add_assoc, h _ (by omega), ← Nat.add_assoc]; exact c2 j hj, by rw [h _ (by omega)]; exact c3, fun j hj => by rw [Nat.add_assoc, h _ (by omega), ← Nat.add_assoc]; exact c4 j hj⟩
theorem md_set {g g2 : Nat → Int32} {mk n k : Nat} {d : Nat → Nat} {D : Nat → nd} {xs : List Nat} (M : md g n d D) (ok : nd_ok mk n D) (hk : k < n) (hx : xs.length ≤ 20) (h3 : g2 (128 * d k + 3) = nI xs.length) (h8 : md_txt g2 (128 * d k + 8) xs) (ho : ∀ i, i ≠ 128 * d k + 3 → (i < 128 * d k + 8 ∨ 128 * d k + 28 ≤ i) → g2 i = g i) : md g2 n d (nd_set D k xs) := by
  obtain ⟨a1, a2, a3, a4, a5, a6⟩ := M
  have hdk := (a3 k hk).1
  refine ⟨a1, by rw [ho _ (by omega) (by omega)]; exact a2, fun i hi => ⟨(a3 i hi).1, by rw [ho _ (by omega) (by omega)]; exact (a3 i hi).2⟩, a4, fun i hi => ?_, fun s hs hq => ?_⟩
  · have hps : md_ps d (nd_set D k xs i) = md_ps d (D i) := by
      unfold md_ps
      have : (nd_set D k xs i).2.2.1 = (D i).2.2.1 := congrFun (nd_set_pa (D := D) (k := k) (t := xs)) i
      rw [this]
    rw [hps]
    by_cases q : i = k
    · subst q
      rw [nd_set_s]
      have o := ok.2 i hi
      obtain ⟨b1, b2, b3, b4, b5, b6, b7, b8, b9⟩ := a5 i hi
      refine ⟨by rw [ho _ (by omega) (by omega)]; exact b1, by rw [ho _ (by omega) (by omega)]; exact b2, by rw [ho _ (by omega) (by omega)]; exact b3, h3, by rw [ho _ (by omega) (by omega)]; exact b5, by rw [ho _ (by omega) (by omega)]; exact b6, h8, fun j hj => by rw [ho _ (by omega) (by omega)]; exact b8 j hj, fun a ha => ?_⟩
      obtain ⟨c1, c2, c3, c4⟩ := b9 a ha
      exact ⟨by rw [ho _ (by omega) (by omega)]; exact c1, fun j hj => by rw [ho _ (by omega) (by omega)]; exact c2 j hj, by rw [ho _ (by omega) (by omega)]; exact c3, fun j hj => by rw [ho _ (by omega) (by omega)]; exact c4 j hj⟩
    · rw [nd_set_n q]
      have hne : d i ≠ d k := fun e => q (a4 i k hi hk e)
      exact md_row_congr (fun o ho2 => ho _ (by omega) (by omega)) ok hi (a5 i hi)
  · have hne : d k ≠ s := hq k hk
    rw [ho _ (by omega) (by omega)]
    exact a6 s hs hq
section PR3
variable {st : mT} {mk n m : Nat} {D D2 : Nat → nd} {xs : List Nat} {rs : List Int32} {ch : Int32} {d : Nat → Nat}
theorem mPIC_buf (I : mPIC st mk n D m D2 xs rs ch) (hx : xs.length ≤ 120) (hc : ∀ c ∈ xs, 32 ≤ c ∧ c ≤ 126) : md_buf st xs := ⟨I.2.2.2.2.1, I.2.2.2.2.2.1, hx, fun c h => by have := hc c h; omega⟩
/-- the buffer emptied -/
theorem mPIC_0 (I : mPIC st mk n D m D2 xs rs ch) : mPIC (mm_F st 7 0) mk n D m D2 [] rs ch := by
  obtain ⟨a1, a2, r1, r2, r3, r4, r5, r6⟩ := I
  refine ⟨a1, a2, ?_, ?_, ?_, fun j hj => absurd hj (Nat.not_lt_zero _), ?_, r6⟩
  · show upd st.1 7 0 4 = _
    rw [upd_n (by decide)]; exact r1
  · show upd st.1 7 0 5 = _
    rw [upd_n (by decide)]; exact r2
  · show upd st.1 7 0 7 = _
    rw [upd_s]; rfl
  · show upd st.1 7 0 55 = _
    rw [upd_n (by decide)]; exact r5
theorem mPIC_ch (I : mPIC st mk n D m D2 xs rs ch) {c : Int32} : mPIC (mm_F st 5 c) mk n D m D2 xs rs c := by
  obtain ⟨a1, a2, r1, r2, r3, r4, r5, r6⟩ := I
  refine ⟨a1, a2, ?_, ?_, ?_, r4, ?_, r6⟩
  · show upd st.1 5 c 4 = _
    rw [upd_n (by decide)]; exact r1
  · show upd st.1 5 c 5 = _
    rw [upd_s]
  · show upd st.1 5 c 7 = _
    rw [upd_n (by decide)]; exact r3
  · show upd st.1 5 c 55 = _
    rw [upd_n (by decide)]; exact r5
theorem mPIC_a {g : Nat → Int32} {n2 : Nat} {D3 : Nat → nd} (I : mPIC st mk n D m D2 xs rs ch) (M : ∃ d, md g n2 d D3) : mPIC (mp_a st g) mk n2 D3 m D2 xs rs ch := by
  obtain ⟨a1, a2, r1, r2, r3, r4, r5, r6⟩ := I
  exact ⟨M, a2, r1, r2, r3, r4, r5, r6⟩
theorem pm_replace (I : mPIC st mk n D m D2 xs rs ch) (ok : nd_ok mk n D) (hx : xs.length ≤ 120) (hc : ∀ c ∈ xs, 32 ≤ c ∧ c ≤ 126) (x : Int32) : (∀ k, a_at n D x = some k → a_may (D k).2.1 xs = true → ∃ st2, g_replace x st = some (1, st2) ∧ mPIC st2 mk n (nd_set D k xs) m D2 [] rs (ch + 1)) ∧ ((∀ k, a_at n D x = some k → a_may (D k).2.1 xs = false) → ∃ st2, g_replace x st = some (0, st2) ∧ mPIC st2 mk n D m D2 [] rs ch) := by
  have b := mPIC_buf I hx hc
  obtain ⟨d, M⟩ := I.1
  have e := mp_replace M ok b x
  refine ⟨fun k hk hm => ?_, fun hq => ?_⟩
  · rw [hk] at e
    simp only [hm, if_true] at e
    have hl : xs.length ≤ 20 := (of_decide_eq_true hm).2.1
    have hkn := (a_at_some hk).1
    refine ⟨_, e, mPIC_0 (xs := xs) ?_⟩
    rw [I.2.2.2.1]
    refine mPIC_ch (ch := ch) (mPIC_a I ⟨d, md_set M ok hkn hl upd_s (fun j hj => ?_) (fun i h1 h2 => ?_)⟩)
    · rw [upd_n (by omega)]
      exact mp_wt_s _ _ hj
    · rw [upd_n h1]
      exact mp_wt_o _ _ (by omega)
  · refine ⟨_, ?_, mPIC_0 I⟩
    rw [e]
    cases e2 : a_at n D x with
    | none => rfl
    | some k =>
      simp only [hq k e2, Bool.false_eq_true, if_false]
end PR3
