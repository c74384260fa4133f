-- the reference's picture of a document
def md_txt (g : Nat → Int32) (o : Nat) (t : List Nat) : Prop := ∀ j, j < t.length → g (o + j) = nI (t.getD j 0)
def md_row (g : Nat → Int32) (s : Nat) (x : nd) (ps : Int32) : Prop :=
  g (128 * s) = nI (x.1 + 1) ∧ g (128 * s + 1) = nI x.2.1 ∧ g (128 * s + 2) = ps ∧ g (128 * s + 3) = nI x.2.2.2.2.2.length ∧ g (128 * s + 4) = nI x.2.2.2.1.length ∧ g (128 * s + 5) = nI x.2.2.2.2.1.length ∧ md_txt g (128 * s + 8) x.2.2.2.2.2 ∧ (∀ j, j < x.2.2.2.1.length → g (128 * s + 28 + j) = x.2.2.2.1.getD j 0) ∧ ∀ a, a < x.2.2.2.2.1.length → g (128 * s + (44 + 28 * a)) = nI (x.2.2.2.2.1.getD a ([], [])).1.length ∧ md_txt g (128 * s + (45 + 28 * a)) (x.2.2.2.2.1.getD a ([], [])).1 ∧ g (128 * s + (51 + 28 * a)) = nI (x.2.2.2.2.1.getD a ([], [])).2.length ∧ md_txt g (128 * s + (52 + 28 * a)) (x.2.2.2.2.1.getD a ([], [])).2
def md_ps (d : Nat → Nat) (x : nd) : Int32 := match x.2.2.1 with
  | some p => nI (d p)
  | none => -1
/-- the array holds n nodes, the k-th in row d k; the other rows are free -/
def md (g : Nat → Int32) (n : Nat) (d : Nat → Nat) (D : Nat → nd) : Prop := n ≤ 40 ∧ g 5160 = nI n ∧ (∀ k, k < n → d k < 40 ∧ g (5120 + k) = nI (d k)) ∧ (∀ i j, i < n → j < n → d i = d j → i = j) ∧ (∀ k, k < n → md_row g (d k) (D k) (md_ps d (D k))) ∧ ∀ s, s < 40 → (∀ k, k < n → d k ≠ s) → g (128 * s) = 0
/-- the reference holds the same -/
def mPIC (st : mT) (mk n : Nat) (D : Nat → nd) (m : Nat) (D2 : Nat → nd) (xs : List Nat) (rs : List Int32) (ch : Int32) : Prop :=
  (∃ d, md (st.2.1 0) n d D) ∧ (∃ d, md (st.2.1 1) m d D2) ∧ st.1 4 = nI mk ∧ st.1 5 = ch ∧ st.1 7 = nI xs.length ∧ md_txt (st.2.1 6) 0 xs ∧ st.1 55 = nI rs.length ∧ ∀ j, j < rs.length → st.2.1 56 j = rs.getD j 0
section PM1
variable {st : mT} {mk n m : Nat} {D D2 : Nat → nd} {xs : List Nat} {rs : List Int32} {ch : Int32} {d : Nat → Nat}
theorem md_D (M : md (st.2.1 0) n d D) : mp_D st n d := ⟨M.1, M.2.1, M.2.2.1⟩
theorem md_P (M : md (st.2.1 0) n d D) (ok : nd_ok mk n D) : mp_P st n d (fun k => (D k).2.2.1) := by
  intro k hk
  have r := (M.2.2.2.2.1 k hk).2.2.1
  refine ⟨fun p hp => ⟨(ok.2 k hk).2.2.1 p hp, ?_⟩, fun hp => ?_⟩
  · have hp2 : (D k).2.2.1 = some p := hp
    rw [r, md_ps, hp2]
  · have hp2 : (D k).2.2.1 = none := hp
    rw [r, md_ps, hp2]
theorem md_at (M : md (st.2.1 0) n d D) (x : Int32) : mp_at st d n x = a_at n D x := by
  unfold mp_at a_at
  refine mp_fst_congr n 0 (fun j _ hj => ?_)
  rw [(M.2.2.2.2.1 j (by omega)).1, ← nI_1, Int32.add_sub_cancel]
theorem pm_kind (I : mPIC st mk n D m D2 xs rs ch) (x : Int32) : g_kind x st = some ((match a_at n D x with | some k => nI (D k).2.1 | none => -1000), st) := by
  obtain ⟨⟨d, M⟩, r⟩ := I
  rw [mp_kind (md_D M), md_at M]
  cases e : a_at n D x with
  | none => rfl
  | some k => simp only [(M.2.2.2.2.1 k (a_at_some e).1).2.1]
theorem pm_nodes (I : mPIC st mk n D m D2 xs rs ch) : g_nodes st = some (nI n, st) := by
  obtain ⟨⟨d, M⟩, r⟩ := I
  exact mp_nodes (md_D M)
theorem pm_root (I : mPIC st mk n D m D2 xs rs ch) : g_root st = some ((if n = 0 then -1000 else nI (D 0).1), st) := by
  obtain ⟨⟨d, M⟩, r⟩ := I
  rw [mp_root (md_D M)]
  by_cases q : n = 0
  · rw [if_pos q, if_pos q]
  · rw [if_neg q, if_neg q, (M.2.2.2.2.1 0 (by omega)).1, ← nI_1, Int32.add_sub_cancel]
theorem pm_result (I : mPIC st mk n D m D2 xs rs ch) (hr : rs.length ≤ 40) (x : Int32) : g_result x st = some ((if x < 0 then -1000 else if nI rs.length ≤ x then -1000 else rs.getD x.toNatClampNeg 0), st) := by
  obtain ⟨_, _, _, _, _, _, r1, r2⟩ := I
  rw [mp_result hr r1]
  by_cases h0 : x < 0
  · rw [if_pos h0, if_pos h0]
  by_cases h1 : nI rs.length ≤ x
  · rw [if_neg h0, if_neg h0, if_pos h1, if_pos h1]
  rw [if_neg h0, if_neg h0, if_neg h1, if_neg h1]
  have h2 := Int32.lt_iff_toInt_lt.mp (Int32.not_le.mp h1)
  rw [nI_toInt (by omega)] at h2
  obtain ⟨e1, e2, e3⟩ := i32_nat h0
  rw [r2 _ (by omega)]
theorem pm_letter (I : mPIC st mk n D m D2 xs rs ch) (ok : nd_ok mk n D) (x x2 : Int32) : g_letter x x2 st = some ((match a_at n D x with | some k => (if x2 < 0 then 0 else if x2 < nI (D k).2.2.2.2.2.length then nI ((D k).2.2.2.2.2.getD x2.toNatClampNeg 0) else 0) | none => 0), st) := by
  obtain ⟨⟨d, M⟩, r⟩ := I
  rw [mp_letter (len := fun k => (D k).2.2.2.2.2.length) (md_D M) (fun k hk => ⟨(ok.2 k hk).2.2.2.2.2.2.1, (M.2.2.2.2.1 k hk).2.2.2.1⟩), md_at M]
  cases e : a_at n D x with
  | none => rfl
  | some k =>
    have hk := (a_at_some e).1
    simp only []
    by_cases h0 : x2 < 0
    · rw [if_pos h0, if_pos h0]
    by_cases h1 : x2 < nI (D k).2.2.2.2.2.length
    · rw [if_neg h0, if_neg h0, if_pos h1, if_pos h1]
      have h2 := Int32.lt_iff_toInt_lt.mp h1
      have o := (ok.2 k hk).2.2.2.2.2.2.1
      rw [nI_toInt (by omega)] at h2
      obtain ⟨e1, e2, e3⟩ := i32_nat h0
      have := (M.2.2.2.2.1 k hk).2.2.2.2.2.2.1 x2.toNatClampNeg (by omega)
      rw [← Nat.add_assoc, this]
    · rw [if_neg h0, if_neg h0, if_neg h1, if_neg h1]
theorem pm_label (I : mPIC st mk n D m D2 xs rs ch) (ok : nd_ok mk n D) (x x2 : Int32) : g_label x x2 st = some ((match a_at n D x with | some k => (if x2 < 0 then 0 else if x2 < nI (D k).2.2.2.1.length then (D k).2.2.2.1.getD x2.toNatClampNeg 0 else 0) | none => 0), st) := by
  obtain ⟨⟨d, M⟩, r⟩ := I
  rw [mp_label (len := fun k => (D k).2.2.2.1.length) (md_D M) (fun k hk => ⟨(ok.2 k hk).2.2.2.1, (M.2.2.2.2.1 k hk).2.2.2.2.1⟩), md_at M]
  cases e : a_at n D x with
  | none => rfl
  | some k =>
    have hk := (a_at_some e).1
    simp only []
    by_cases h0 : x2 < 0
    · rw [if_pos h0, if_pos h0]
    by_cases h1 : x2 < nI (D k).2.2.2.1.length
    · rw [if_neg h0, if_neg h0, if_pos h1, if_pos h1]
      have h2 := Int32.lt_iff_toInt_lt.mp h1
      have o := (ok.2 k hk).2.2.2.1
      rw [nI_toInt (by omega)] at h2
      obtain ⟨e1, e2, e3⟩ := i32_nat h0
      have := (M.2.2.2.2.1 k hk).2.2.2.2.2.2.2.1 x2.toNatClampNeg (by omega)
      rw [← Nat.add_assoc, this]
    · rw [if_neg h0, if_neg h0, if_neg h1, if_neg h1]
/-- rows that agree up to 5161 hold the same -/
theorem md_congr {g g2 : Nat → Int32} (h : ∀ i, i < 5161 → g2 i = g i) (M : md g n d D) (ok : nd_ok mk n D) : md g2 n d D := by
  obtain ⟨a1, a2, a3, a4, a5, a6⟩ := M
  refine ⟨a1, by rw [h _ (by decide)]; exact a2, fun k hk => ⟨(a3 k hk).1, by rw [h _ (by omega)]; exact (a3 k hk).2⟩, a4, fun k hk => ?_, fun s hs hq => by rw [h _ (by omega)]; exact a6 s hs hq⟩
  have hd := (a3 k hk).1
  have o := ok.2 k hk
  obtain ⟨b1, b2, b3, b4, b5, b6, b7, b8, b9⟩ := a5 k hk
  refine ⟨by rw [h _ (by omega)]; exact b1, by rw [h _ (by omega)]; exact b2, by rw [h _ (by omega)]; exact b3, by rw [h _ (by omega)]; exact b4, by rw [h _ (by omega)]; exact b5, by rw [h _ (by omega)]; exact b6, fun j hj => by rw [h _ (by omega)]; exact b7 j hj, fun j hj => by rw [h _ (by omega)]; exact b8 j hj, fun a ha => ?_⟩
  obtain ⟨c1, c2, c3, c4⟩ := b9 a ha
  have hq : (D k).2.2.2.2.1.getD a ([], []) ∈ (D k).2.2.2.2.1 := by
    rw [List.getD_eq_getElem?_getD, List.getElem?_eq_getElem ha]
    exact List.getElem_mem ha
  have hl := o.2.2.2.2.2.1 _ hq
  have ha3 := o.2.2.2.2.1
  exact ⟨by rw [h _ (by omega)]; exact c1, fun j hj => by rw [h _ (by omega)]; exact c2 j hj, by rw [h _ (by omega)]; exact c3, fun j hj => by rw [h _ (by omega)]; exact c4 j hj⟩
theorem pm_commit (I : mPIC st mk n D m D2 xs rs ch) (ok : nd_ok mk n D) : ∃ st2, g_commit st = some (ch, st2) ∧ mPIC st2 mk n D n D xs rs 0 := by
  obtain ⟨⟨d, M⟩, _, r1, r2, r3, r4, r5, r6⟩ := I
  refine ⟨_, by rw [mp_commit, r2], ⟨d, ?_⟩, ⟨d, ?_⟩, ?_, ?_, ?_, ?_, ?_, ?_⟩
  · exact M
  · refine md_congr (g := st.2.1 0) (fun i hi => ?_) M ok
    show (mp_cp st 0 1 5161).2.1 1 i = st.2.1 0 i
    simp [mp_cp, hi]
  · show upd st.1 5 0 4 = _
    rw [upd_n (by decide)]; exact r1
  · show upd st.1 5 0 5 = _
    rw [upd_s]
  · show upd st.1 5 0 7 = _
    rw [upd_n (by decide)]; exact r3
  · exact r4
  · show upd st.1 5 0 55 = _
    rw [upd_n (by decide)]; exact r5
  · exact r6
theorem pm_crash (I : mPIC st mk n D m D2 xs rs ch) (ok : nd_ok mk m D2) : ∃ st2, g_crash st = some (ch, st2) ∧ mPIC st2 mk m D2 m D2 [] rs 0 := by
  obtain ⟨_, ⟨d, M⟩, r1, r2, r3, r4, r5, r6⟩ := I
  refine ⟨_, by rw [mp_crash, r2], ⟨d, ?_⟩, ⟨d, ?_⟩, ?_, ?_, ?_, ?_, ?_, ?_⟩
  · refine md_congr (g := st.2.1 1) (fun i hi => ?_) M ok
    show (mp_cp st 1 0 5161).2.1 0 i = st.2.1 1 i
    simp [mp_cp, hi]
  · exact M
  · show upd (upd st.1 5 0) 7 0 4 = _
    rw [upd_n (by decide), upd_n (by decide)]; exact r1
  · show upd (upd st.1 5 0) 7 0 5 = _
    rw [upd_n (by decide), upd_s]
  · show upd (upd st.1 5 0) 7 0 7 = _
    rw [upd_s]; rfl
  · intro j hj; exact absurd hj (Nat.not_lt_zero _)
  · show upd (upd st.1 5 0) 7 0 55 = _
    rw [upd_n (by decide), upd_n (by decide)]; exact r5
  · exact r6
theorem nI_char {q : Nat} (h : q < 65536) : vp_nar .char (nI q) = nI q := by
  have e : UInt32.ofNat q % 65536 = UInt32.ofNat q := by
    apply UInt32.toNat_inj.mp
    rw [UInt32.toNat_mod]
    simp
    omega
  show ((nI q).toUInt32 % 65536).toInt32 = nI q
  rw [show (nI q).toUInt32 = UInt32.ofNat q from rfl, e]
  rfl
theorem pm_type (I : mPIC st mk n D m D2 xs rs ch) (hx : xs.length ≤ 120) (x : Int32) : (x < 32 ∨ 126 < x ∨ 120 ≤ xs.length → g_type x st = some (0, st)) ∧ ∀ q, x = nI q → 32 ≤ q → q ≤ 126 → xs.length < 120 → ∃ st2, g_type x st = some (1, st2) ∧ mPIC st2 mk n D m D2 (xs ++ [q]) rs ch := by
  obtain ⟨a1, a2, r1, r2, r3, r4, r5, r6⟩ := I
  have e := mp_type hx r3 x
  refine ⟨fun hq => ?_, fun q hq h1 h2 h3 => ?_⟩
  · rw [e]
    by_cases k1 : x < 32
    · rw [if_pos k1]
    by_cases k2 : 126 < x
    · rw [if_neg k1, if_pos k2]
    rw [if_neg k1, if_neg k2, if_neg (by rcases hq with q | q | q; exact absurd q k1; exact absurd q k2; omega)]
  · have k1 : ¬ x < 32 := fun k => by
      have := Int32.lt_iff_toInt_lt.mp k
      rw [hq, nI_toInt (by omega), show (32 : Int32).toInt = 32 by decide] at this
      omega
    have k2 : ¬ 126 < x := fun k => by
      have := Int32.lt_iff_toInt_lt.mp k
      rw [hq, nI_toInt (by omega), show (126 : Int32).toInt = 126 by decide] at this
      omega
    rw [if_neg k1, if_neg k2, if_pos h3] at e
    refine ⟨_, e, a1, a2, ?_, ?_, ?_, ?_, ?_, ?_⟩
    · show upd st.1 7 (nI (xs.length + 1)) 4 = _
      rw [upd_n (by decide)]; exact r1
    · show upd st.1 7 (nI (xs.length + 1)) 5 = _
      rw [upd_n (by decide)]; exact r2
    · show upd st.1 7 (nI (xs.length + 1)) 7 = _
      rw [upd_s, List.length_append]; rfl
    · intro j hj
      show upd (st.2.1 6) xs.length (vp_nar FieldType.char x) (0 + j) = _
      rw [List.length_append] at hj
      rw [Nat.zero_add, List.getD_eq_getElem?_getD]
      by_cases q1 : j = xs.length
      · subst q1
        rw [upd_s, List.getElem?_append_right (Nat.le_refl _), Nat.sub_self, hq, nI_char (by omega)]
        rfl
      · have hj2 : j < xs.length := by simp at hj; omega
        have := r4 j hj2
        rw [Nat.zero_add, List.getD_eq_getElem?_getD] at this
        rw [upd_n q1, List.getElem?_append_left hj2]
        exact this
    · show upd st.1 7 (nI (xs.length + 1)) 55 = _
      rw [upd_n (by decide)]; exact r5
    · exact r6
end PM1
