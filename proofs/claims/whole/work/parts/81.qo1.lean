-- insert of the reference: the neighbours
theorem mp_fst_no {P : Nat → Bool} : ∀ (m k : Nat), (∀ j, k ≤ j → j < k + m → P j = false) → mp_fst P m k = none := by
  intro m
  induction m with
  | zero => intro k _; rfl
  | succ m ih =>
    intro k h
    show (if P k then some k else mp_fst P m (k + 1)) = none
    rw [h k (Nat.le_refl _) (by omega)]
    exact ih (k + 1) (fun j h1 h2 => h j (by omega) (by omega))
theorem mp_f1_fst {P : Nat → Bool} : ∀ k : Nat, mp_f1 P k = mp_fst P k 0 := by
  intro k
  induction k with
  | zero => rfl
  | succ k ih =>
    rw [mp_fst_le k 1 0, ← ih]
    show (match mp_f1 P k with | some j => some j | none => if P k then some k else none) = _
    cases mp_f1 P k with
    | some j => rfl
    | none =>
      show (if P k then some k else none) = (if P (0 + k) then some (0 + k) else none)
      rw [Nat.zero_add]
theorem mp_fst_skip {P : Nat → Bool} {m k t : Nat} (ht : k ≤ t) (htm : t ≤ k + m) (h : ∀ j, k ≤ j → j < t → P j = false) : mp_fst P m k = mp_fst P (k + m - t) t := by
  rw [show m = (t - k) + (k + m - t) by omega, mp_fst_le, mp_fst_no (t - k) k (fun j h1 h2 => h j h1 (by omega))]
  simp only []
  rw [show k + (t - k) = t by omega, show k + (t - k + (k + m - t)) - t = k + m - t by omega]
theorem mp_lst_at {P : Nat → Bool} {k : Nat} (hk : P k = true) : ∀ (r : Nat), (∀ j, k < j → j < k + 1 + r → P j = false) → mp_lst P (k + 1 + r) = some k := by
  intro r
  induction r with
  | zero =>
    intro _
    show (if P k then some k else mp_lst P k) = some k
    rw [hk]
    rfl
  | succ r ih =>
    intro h
    show (if P (k + 1 + r) then some (k + 1 + r) else mp_lst P (k + 1 + r)) = some k
    rw [h (k + 1 + r) (by omega) (by omega)]
    exact ih (fun j h1 h2 => h j h1 (by omega))
theorem mp_lst_cut {P : Nat → Bool} {t : Nat} : ∀ (r : Nat), (∀ j, t ≤ j → j < t + r → P j = false) → mp_lst P (t + r) = mp_lst P t := by
  intro r
  induction r with
  | zero => intro _; rfl
  | succ r ih =>
    intro h
    show (if P (t + r) then some (t + r) else mp_lst P (t + r)) = _
    rw [h (t + r) (by omega) (by omega)]
    exact ih (fun j h1 h2 => h j h1 (by omega))
section QO1
variable {st : mT} {mk n : Nat} {D : Nat → nd} {d : Nat → Nat}
theorem a_lf0 {pp k : Nat} : a_lf D pp k = mp_lst (fun j => decide ((D j).2.2.1 = some pp)) k := rfl
/-- left and right of the place where the nodes go -/
theorem a_lr (ok : nd_ok mk n D) (pre : nd_pre n D) {k : Nat} (hk : k < n) : (∀ pp, (D k).2.2.1 = some pp → a_rt n D pp k = some k ∧ a_lf D pp (a_end n D k) = some k ∧ a_rt n D pp (a_end n D k) = mp_fst (fun j => decide ((D j).2.2.1 = some pp)) (n - (k + 1)) (k + 1)) ∧ a_lf D k (k + 1) = none ∧ a_rt n D k (k + 1) = mp_f1 (fun j => decide ((D j).2.2.1 = some k)) n ∧ a_lf D k (a_end n D k) = mp_lst (fun j => decide ((D j).2.2.1 = some k)) n ∧ a_rt n D k (a_end n D k) = none := by
  have hs := mp_end_spec (pa := fun k => (D k).2.2.1) hk
  have h1 : ∀ k, k < n → ∀ p, (fun k => (D k).2.2.1) k = some p → p < k := fun k hk p hp => (ok.2 k hk).2.2.1 p hp
  have nk : ∀ j, j < k + 1 → j < n → decide ((D j).2.2.1 = some k) = false := fun j hj hjn => by
    refine decide_eq_false (fun w => ?_)
    have := h1 j hjn k w
    omega
  have ne : ∀ j, a_end n D k ≤ j → j < n → decide ((D j).2.2.1 = some k) = false := fun j hj hjn => by
    refine decide_eq_false (fun w => ?_)
    have := nd_end_cl ok pre hk j hjn (Or.inr hj) k w
    have h3 := hs.1
    omega
  have e1 : a_end n D k = mp_end (fun k => (D k).2.2.1) n k := rfl
  refine ⟨fun pp hp => ⟨?_, ?_, ?_⟩, ?_, ?_, ?_, ?_⟩
  · unfold a_rt
    rw [show n - k = (n - k - 1) + 1 by omega]
    show (if decide ((D k).2.2.1 = some pp) then some k else _) = some k
    rw [decide_eq_true hp]
    rfl
  · unfold a_lf
    rw [show a_end n D k = k + 1 + (a_end n D k - (k + 1)) by rw [e1]; omega]
    refine mp_lst_at (decide_eq_true hp) _ (fun j h2 h3 => decide_eq_false (fun w => ?_))
    have d1 := hs.2.2.1 j h2 (by omega)
    have d2 := mp_dep_some (pa := fun k => (D k).2.2.1) h1 hk hp
    have d3 := mp_dep_some (pa := fun k => (D k).2.2.1) h1 (show j < n by omega) w
    omega
  · unfold a_rt
    rw [a_right ok pre hk hp, a_right2 ok pre hk hp]
  · exact mp_lst_none _ (fun j hj => nk j hj (by omega))
  · unfold a_rt
    rw [mp_f1_fst, mp_fst_skip (k := 0) (t := k + 1) (m := n) (by omega) (by omega) (fun j _ hj => nk j hj (by omega)), Nat.zero_add]
  · unfold a_lf
    have := mp_lst_cut (P := fun j => decide ((D j).2.2.1 = some k)) (t := a_end n D k) (n - a_end n D k) (fun j h2 h3 => ne j h2 (by rw [e1] at h2 h3; omega))
    rw [show a_end n D k + (n - a_end n D k) = n by rw [e1]; omega] at this
    exact this.symm
  · exact mp_fst_no _ _ (fun j h2 h3 => ne j h2 (by rw [e1] at h2 h3; omega))
theorem mp_f1_congr {P R : Nat → Bool} (t : Nat) (h : ∀ k, k < t → P k = R k) : mp_f1 P t = mp_f1 R t := by
  rw [mp_f1_fst, mp_f1_fst]
  exact mp_fst_congr _ _ (fun j _ hj => h j (by omega))
theorem rm_sibs (M : md (st.2.1 0) n d D) (ok : nd_ok mk n D) (pre : nd_pre n D) {k : Nat} (hk : k < n) : (∀ pp, (D k).2.2.1 = some pp → g_sibling (nI (d k)) (-1) st = some (mp_sl d (a_lf D pp k), st) ∧ g_sibling (nI (d k)) 1 st = some (mp_sl d (a_rt n D pp (a_end n D k)), st)) ∧ g_child (nI (d k)) 1 st = some (mp_sl d (a_rt n D k (k + 1)), st) ∧ g_child (nI (d k)) (-1) st = some (mp_sl d (a_lf D k (a_end n D k)), st) := by
  have hD := md_D M
  obtain ⟨L1, L2, L3, L4, L5⟩ := a_lr ok pre hk
  refine ⟨fun pp hp => ⟨?_, ?_⟩, ?_, ?_⟩
  · rw [mp_sibL hD hk M.2.2.2.1]
    have e : mp_lst (fun j => decide (mp_pc st d j = mp_pc st d k)) k = a_lf D pp k := mp_lst_congr k (fun j hj => by rw [md_pe M ok (by omega) hk, hp])
    rw [e]
  · rw [mp_sibR hD hk M.2.2.2.1, (L1 pp hp).2.2]
    have e : mp_fst (fun j => decide (mp_pc st d j = mp_pc st d k)) (n - (k + 1)) (k + 1) = mp_fst (fun j => decide ((D j).2.2.1 = some pp)) (n - (k + 1)) (k + 1) := mp_fst_congr _ _ (fun j h1 h2 => by rw [md_pe M ok (by omega) hk, hp])
    rw [e]
  · rw [mp_child1 hD, L3]
    have e : mp_f1 (fun j => decide (mp_pc st d j = nI (d k))) n = mp_f1 (fun j => decide ((D j).2.2.1 = some k)) n := mp_f1_congr n (fun j hj => md_pa M ok hj hk)
    rw [e]
  · rw [mp_childL hD, L4]
    have e : mp_lst (fun j => decide (mp_pc st d j = nI (d k))) n = mp_lst (fun j => decide ((D j).2.2.1 = some k)) n := mp_lst_congr n (fun j hj => md_pa M ok hj hk)
    rw [e]
end QO1
-- insert of the reference: the label between two
theorem od_iff {x : Int32} : x &&& 1 = 1 ↔ x.toBitVec.toNat % 2 = 1 := by
  have e : (x &&& 1).toBitVec.toNat = x.toBitVec.toNat % 2 := by
    rw [Int32.toBitVec_and, BitVec.toNat_and]
    show x.toBitVec.toNat &&& 1 = _
    exact Nat.and_one_is_mod _
  constructor
  · intro h
    rw [← e, h]
    rfl
  · intro h
    rw [← Int32.toBitVec_inj]
    refine BitVec.eq_of_toNat_eq ?_
    rw [e, h]
    rfl
theorem od_zero {x : Int32} : x &&& 1 = 0 ↔ x.toBitVec.toNat % 2 = 0 := by
  have e : (x &&& 1).toBitVec.toNat = x.toBitVec.toNat % 2 := by
    rw [Int32.toBitVec_and, BitVec.toNat_and]
    show x.toBitVec.toNat &&& 1 = _
    exact Nat.and_one_is_mod _
  constructor
  · intro h
    rw [← e, h]
    rfl
  · intro h
    rw [← Int32.toBitVec_inj]
    refine BitVec.eq_of_toNat_eq ?_
    rw [e, h]
    rfl
theorem a_odd_eq {x : Int32} : a_odd x = decide (x.toBitVec.toNat % 2 = 1) := by
  unfold a_odd
  rw [decide_eq_decide]
  exact od_iff
theorem g_odd_eq {x : Int32} {st : mT} : g_odd x st = some (if a_odd x = true then 1 else 0, st) := by
  unfold g_odd
  rw [a_odd_eq]
  by_cases h : x.toBitVec.toNat % 2 = 1
  · rw [if_neg (fun w => by have := od_zero.mp w; omega), if_pos (decide_eq_true h)]
  · rw [if_pos (od_zero.mpr (by omega)), if_neg (by simpa using h)]
theorem g_odd_t {x : Int32} {st : mT} (h : a_odd x = true) : g_odd x st = some (1, st) := by rw [g_odd_eq, if_pos h]
theorem g_odd_f {x : Int32} {st : mT} (h : a_odd x = false) : g_odd x st = some (0, st) := by rw [g_odd_eq, if_neg (by rw [h]; decide)]
theorem n10 {st : mT} : ¬ ((1 : Int32), st).1 = 0 := (by decide : ¬ (1 : Int32) = 0)
theorem odd_add {x y : Int32} : (x + y).toBitVec.toNat % 2 = (x.toBitVec.toNat + y.toBitVec.toNat) % 2 := by
  rw [Int32.toBitVec_add, BitVec.toNat_add]
  omega
theorem odd_sub {x y : Int32} : (x - y).toBitVec.toNat % 2 = (x.toBitVec.toNat + y.toBitVec.toNat) % 2 := by
  have := odd_add (x := x - y) (y := y)
  rw [Int32.sub_add_cancel] at this
  omega
theorem odd_1 {x : Int32} : a_odd (x + 1) = !a_odd x := by
  rw [a_odd_eq, a_odd_eq, odd_add]
  have : (1 : Int32).toBitVec.toNat = 1 := rfl
  rw [this]
  by_cases h : x.toBitVec.toNat % 2 = 1
  · rw [decide_eq_true h, decide_eq_false (by omega)]; rfl
  · rw [decide_eq_false h, decide_eq_true (by omega)]; rfl
theorem odd_m1 {x : Int32} : a_odd (x - 1) = !a_odd x := by
  rw [a_odd_eq, a_odd_eq, odd_sub]
  have : (1 : Int32).toBitVec.toNat = 1 := rfl
  rw [this]
  by_cases h : x.toBitVec.toNat % 2 = 1
  · rw [decide_eq_true h, decide_eq_false (by omega)]; rfl
  · rw [decide_eq_false h, decide_eq_true (by omega)]; rfl
theorem odd_2 {x : Int32} : a_odd (x + 2) = a_odd x := by
  rw [a_odd_eq, a_odd_eq, odd_add]
  have : (2 : Int32).toBitVec.toNat = 2 := rfl
  rw [this, decide_eq_decide]
  omega
theorem odd_m2 {x : Int32} : a_odd (x - 2) = a_odd x := by
  rw [a_odd_eq, a_odd_eq, odd_sub]
  have : (2 : Int32).toBitVec.toNat = 2 := rfl
  rw [this, decide_eq_decide]
  omega
theorem odd_one : a_odd 1 = true := by decide
theorem odd_abv {x : Int32} : a_odd (a_abv x) = true := by
  unfold a_abv
  cases h : a_odd x with
  | true => rw [if_pos rfl, odd_2]; exact h
  | false => rw [if_neg (by decide), odd_1, h]; rfl
theorem odd_blw {x : Int32} : a_odd (a_blw x) = true := by
  unfold a_blw
  cases h : a_odd x with
  | true => rw [if_pos rfl, odd_m2]; exact h
  | false => rw [if_neg (by decide), odd_m1, h]; rfl
theorem odd_cnt {x : Int32} : a_odd (2 * x + 1) = true := by
  rw [odd_1]
  have : a_odd (2 * x) = false := by
    rw [a_odd_eq, Int32.toBitVec_mul, BitVec.toNat_mul]
    refine decide_eq_false ?_
    have : (2 : Int32).toBitVec.toNat = 2 := rfl
    rw [this]
    omega
  rw [this]
  rfl
/-- from s on: even ones, then one that is odd -/
def lbK (s : Nat) (l : List Int32) : Prop := s < l.length ∧ ∀ i, s ≤ i → i < l.length → a_odd (l.getD i 0) = decide (i + 1 = l.length)
theorem lbK.next {s : Nat} {l : List Int32} (h : lbK s l) (e : a_odd (l.getD s 0) = false) : lbK (s + 1) l := by
  have := h.2 s (Nat.le_refl _) h.1
  rw [e] at this
  have h2 : ¬ s + 1 = l.length := of_decide_eq_false this.symm
  exact ⟨by have := h.1; omega, fun i h3 h4 => h.2 i (by omega) h4⟩
/-- the tail so far -/
def tR (st0 st : mT) (T : List Int32) : Prop := (∀ k, k ≠ 23 → st.1 k = st0.1 k) ∧ st.1 23 = nI T.length ∧ (∀ a, a ≠ 22 → st.2.1 a = st0.2.1 a) ∧ (∀ i, i < T.length → st.2.1 22 i = T.getD i 0) ∧ st.2.2 = st0.2.2
section QO2
variable {st0 st : mT}
theorem rm_tailBy {T : List Int32} (R : tR st0 st T) (h : T.length < 40) (v : Int32) : ∃ s, g_tailBy v st = some s ∧ tR st0 s (T ++ [v]) := by
  obtain ⟨r1, r2, r3, r4, r5⟩ := R
  refine ⟨mm_F (mm_G st 22 T.length v) 23 (nI (T.length + 1)), ?_, fun k hk => (fF_n hk).trans (r1 k hk), ?_, fun a ha => ?_, fun i hi => ?_, r5⟩
  · unfold g_tailBy g_tailBy_19
    rw [r2, if_neg (show ¬ (40 : Int32) ≤ nI T.length from nI_ge (b := 40) h (by decide)), mp_ix h (by decide)]
    simp only [mm_lt]
    rw [show (mm_G st 22 T.length v).1 23 = nI T.length from r2, nI_1]
  · rw [len_snoc]; exact fF_s
  · show (mm_G st 22 T.length v).2.1 a = _
    rw [fG_n ha]
    exact r3 a ha
  · rw [len_snoc] at hi
    show (mm_G st 22 T.length v).2.1 22 i = _
    by_cases e : i < T.length
    · rw [fG_i (by omega), getD_left e]
      exact r4 i e
    · have e2 : i = T.length := by omega
      subst e2
      rw [fG_s, getD_snoc]
/-- a neighbour's label, from place i on -/
def sdR (st0 : mT) (o : Option (List Int32)) (x pos : Int32) (i : Nat) : Prop := (o = none ∧ pos = -1) ∨ ∃ l s, o = some l ∧ pos = nI i ∧ x = nI s ∧ s < 40 ∧ (∀ j, j < l.length → st0.2.1 0 (128 * s + 28 + j) = l.getD j 0) ∧ lbK i l ∧ l.length ≤ 16
theorem sdR.f {l : List Int32} {s i : Nat} (R : ∀ k, st.2.1 0 k = st0.2.1 0 k) (hs : s < 40) (hl : ∀ j, j < l.length → st0.2.1 0 (128 * s + 28 + j) = l.getD j 0) (hi : i < l.length) (h16 : l.length ≤ 16) : g_f (nI s) (28 + nI i) st = some (l.getD i 0, st) := by
  rw [show (28 : Int32) + nI i = nI (28 + i) by rw [show (28 : Int32) = nI 28 from rfl, nI_add], mp_f st hs (by omega), R, ← Nat.add_assoc, hl i hi]
theorem rm_btwE {fu : Nat} {x1 x2 x4 x5 x7 : Int32} (hf : 1 ≤ fu) : g_between_33 fu x1 x2 x4 x5 0 x7 st = some st := by
  obtain ⟨fu, rfl⟩ : ∃ f, fu = f + 1 := ⟨fu - 1, by omega⟩
  unfold g_between_33
  split
  · rfl
  · rw [if_pos rfl]
theorem rm_btwL {P : List Int32} {x1 x2 : Int32} (hP : P.length ≤ 16) : ∀ (f fu : Nat) (T : List Int32) (a b : Option (List Int32)) (x4 x5 : Int32) (st : mT), T.length + f = 20 → f + 1 < fu → tR st0 st T → sdR st0 a x1 x4 (P.length + T.length) → sdR st0 b x2 x5 (P.length + T.length) → (a = none → b = none → T = []) → (∀ v ∈ T, a_odd v = false) → ∃ T' s, a_lb f (P ++ T) a b = P ++ T' ∧ g_between_33 fu x1 x2 x4 x5 1 (nI T.length) st = some s ∧ tR st0 s T' ∧ lbK 0 T' ∧ T'.length ≤ 17 := by
  intro f
  induction f with
  | zero =>
    intro fu T a b x4 x5 st hT _ _ A B hn _
    exfalso
    rcases A with ⟨a1, _⟩ | ⟨l, s, a1, a2, a3, a4, a5, a6, a7⟩
    · rcases B with ⟨b1, _⟩ | ⟨l, s, b1, b2, b3, b4, b5, b6, b7⟩
      · have := hn a1 b1
        rw [this] at hT
        simp at hT
      · have := b6.1
        omega
    · have := a6.1
      omega
  | succ f ih =>
    intro fu T a b x4 x5 st hT hf R A B hn hE
    obtain ⟨fu, rfl⟩ : ∃ f, fu = f + 1 := ⟨fu - 1, by omega⟩
    have R0 : ∀ k, st.2.1 0 k = st0.2.1 0 k := fun k => by rw [R.2.2.1 0 (by decide)]
    have n20 : ¬ (20 : Int32) ≤ nI T.length := nI_ge (b := 20) (by omega) (by decide)
    have lP : (P ++ T).length = P.length + T.length := List.length_append
    have o0 : g_odd 0 st = some (0, st) := by rw [g_odd_eq]; rfl
    have fin : ∀ (v : Int32) (x4 x5 x7 : Int32), T.length ≤ 16 → a_odd v = true → ∃ s, (g_tailBy v st).bind (fun q4 => g_between_297 (g_between_33 fu) x1 x2 x4 x5 0 x7 q4) = some s ∧ tR st0 s (T ++ [v]) ∧ lbK 0 (T ++ [v]) ∧ (T ++ [v]).length ≤ 17 := fun v x4 x5 x7 h16 hv => by
      obtain ⟨s, s1, s2⟩ := rm_tailBy R (by omega) v
      refine ⟨s, ?_, s2, ⟨by rw [len_snoc]; omega, fun i _ hi => ?_⟩, by rw [len_snoc]; omega⟩
      · rw [s1, Option.bind_some]
        unfold g_between_297
        exact rm_btwE (by omega)
      · rw [len_snoc] at hi ⊢
        by_cases e : i < T.length
        · rw [getD_left e, hE _ (getD_mem' e), decide_eq_false (by omega)]
        · have e2 : i = T.length := by omega
          subst e2
          rw [getD_snoc, hv, decide_eq_true rfl]
    rcases A with ⟨a1, a2⟩ | ⟨l, sl, a1, a2, a3, a4, a5, a6, a7⟩
    · subst a1 a2
      rcases B with ⟨b1, b2⟩ | ⟨r, sr, b1, b2, b3, b4, b5, b6, b7⟩
      · subst b1 b2
        have T0 := hn rfl rfl
        subst T0
        obtain ⟨s, s1, s2, s3, s4⟩ := fin 1 (-1) (-1) (nI 0) (by simp) odd_one
        refine ⟨[] ++ [1], s, ?_, ?_, s2, s3, s4⟩
        · unfold a_lb
          rw [if_neg (by rw [lP]; simp; omega)]
          simp
        · rw [← s1]
          unfold g_between_33
          rw [if_neg n20, if_neg (by decide), if_pos (by decide)]
          unfold g_between_64
          rw [if_pos (by decide)]
          unfold g_between_85
          rw [o0, Option.bind_some, if_pos rfl]
          unfold g_between_106
          rw [if_pos (by decide)]
          unfold g_between_145 g_between_146
          rw [if_pos rfl, if_pos (by decide)]
          unfold g_between_255
          rw [if_pos (by decide), if_neg (by decide)]
          unfold g_between_294
          rfl
      · subst b1 b2 b3
        have hi := b6.1
        obtain ⟨s, s1, s2, s3, s4⟩ := fin (a_blw (r.getD (P.length + T.length) 0)) (-1) (nI (P.length + T.length)) (nI T.length) (by omega) odd_blw
        refine ⟨T ++ [a_blw (r.getD (P.length + T.length) 0)], s, ?_, ?_, s2, s3, s4⟩
        · unfold a_lb
          rw [if_neg (by rw [lP]; omega)]
          simp only []
          rw [lP, if_pos hi, List.append_assoc]
        · rw [← s1]
          have p5 : ¬ nI (P.length + T.length) < 0 := nI_pos (by omega)
          unfold g_between_33
          rw [if_neg n20, if_neg (by decide), if_pos (by decide)]
          unfold g_between_64
          rw [if_neg p5, sdR.f R0 b4 b5 hi b7, Option.bind_some]
          unfold g_between_85
          simp only []
          rw [o0, Option.bind_some, if_pos rfl]
          unfold g_between_106
          rw [if_pos (by decide)]
          unfold g_between_145 g_between_146
          rw [if_pos rfl, if_pos (by decide)]
          unfold g_between_255
          rw [if_pos (by decide), if_pos (show (0 : Int32) ≤ nI (P.length + T.length) from nI_le (a := 0) (Nat.zero_le _) (by omega))]
          unfold g_between_294 a_blw
          by_cases od : a_odd (r.getD (P.length + T.length) 0) = true
          · rw [g_odd_t od, Option.bind_some, if_neg n10, if_pos od]
          · rw [g_odd_f (by simpa using od), Option.bind_some, if_pos rfl, if_neg od]
    · subst a1 a2 a3
      have hi := a6.1
      have p4 : ¬ nI (P.length + T.length) < 0 := nI_pos (by omega)
      have nx : ∀ (y : Int32) (x5 : Int32), g_between_85 (g_between_33 fu) (nI sl) x2 (nI (P.length + T.length)) x5 (nI T.length) (l.getD (P.length + T.length) 0) y st = g_between_106 (g_between_33 fu) (nI sl) x2 (nI (P.length + T.length)) x5 (nI T.length) (l.getD (P.length + T.length) 0) y (a_abv (l.getD (P.length + T.length) 0)) st := fun y x5 => by
        unfold g_between_85 a_abv
        by_cases od : a_odd (l.getD (P.length + T.length) 0) = true
        · rw [g_odd_t od, Option.bind_some, if_neg n10, if_pos od]
        · rw [g_odd_f (by simpa using od), Option.bind_some, if_pos rfl, if_neg od]
      have h33 : ∀ x5, g_between_33 (fu + 1) (nI sl) x2 (nI (P.length + T.length)) x5 1 (nI T.length) st = g_between_64 (g_between_33 fu) (nI sl) x2 (nI (P.length + T.length)) x5 (nI T.length) (l.getD (P.length + T.length) 0) st := fun x5 => by
        conv => lhs; unfold g_between_33
        rw [if_neg n20, if_neg (by decide), if_neg p4, sdR.f R0 a4 a5 hi a7, Option.bind_some]
      rcases B with ⟨b1, b2⟩ | ⟨r, sr, b1, b2, b3, b4, b5, b6, b7⟩
      · subst b1 b2
        obtain ⟨s, s1, s2, s3, s4⟩ := fin (a_abv (l.getD (P.length + T.length) 0)) (nI (P.length + T.length)) (-1) (nI T.length) (by omega) odd_abv
        refine ⟨T ++ [a_abv (l.getD (P.length + T.length) 0)], s, ?_, ?_, s2, s3, s4⟩
        · unfold a_lb
          rw [if_neg (by rw [lP]; omega)]
          simp only []
          rw [lP, if_pos hi, List.append_assoc]
        · rw [← s1, h33]
          unfold g_between_64
          rw [if_pos (by decide), nx]
          unfold g_between_106
          rw [if_neg p4, if_pos (by decide)]
          unfold g_between_145 g_between_146
          rw [if_pos rfl, if_neg p4, if_pos (by decide)]
          unfold g_between_255 g_between_294
          rw [if_neg p4]
      · subst b1 b2 b3
        have hj := b6.1
        have h64 : g_between_33 (fu + 1) (nI sl) (nI sr) (nI (P.length + T.length)) (nI (P.length + T.length)) 1 (nI T.length) st = g_between_106 (g_between_33 fu) (nI sl) (nI sr) (nI (P.length + T.length)) (nI (P.length + T.length)) (nI T.length) (l.getD (P.length + T.length) 0) (r.getD (P.length + T.length) 0) (a_abv (l.getD (P.length + T.length) 0)) st := by
          rw [h33]
          unfold g_between_64
          rw [if_neg p4, sdR.f R0 b4 b5 hj b7, Option.bind_some]
          exact nx _ _
        have eA : a_lb (f + 1) (P ++ T) (some l) (some r) = (if a_abv (l.getD (P.length + T.length) 0) < r.getD (P.length + T.length) 0 then P ++ T ++ [a_abv (l.getD (P.length + T.length) 0)] else if a_odd (l.getD (P.length + T.length) 0) = true ∧ a_odd (r.getD (P.length + T.length) 0) = true then P ++ T ++ [l.getD (P.length + T.length) 0 + 1, 1] else if l.getD (P.length + T.length) 0 = r.getD (P.length + T.length) 0 then a_lb f (P ++ T ++ [l.getD (P.length + T.length) 0]) (some l) (some r) else if a_odd (l.getD (P.length + T.length) 0) = false then a_lb f (P ++ T ++ [l.getD (P.length + T.length) 0]) (some l) none else a_lb f (P ++ T ++ [r.getD (P.length + T.length) 0]) none (some r)) := by
          conv => lhs; unfold a_lb
          rw [if_neg (by rw [lP]; omega)]
          simp only []
          rw [lP, if_pos hi, if_pos hj]
        rw [eA, h64]
        have go : ∀ (v : Int32) (a2 b2 : Option (List Int32)) (y4 y5 : Int32), a_odd v = false → sdR st0 a2 (nI sl) y4 (P.length + T.length + 1) → sdR st0 b2 (nI sr) y5 (P.length + T.length + 1) → (a2 ≠ none ∨ b2 ≠ none) → ∃ T' s, a_lb f (P ++ T ++ [v]) a2 b2 = P ++ T' ∧ (g_tailBy v st).bind (fun q8 => g_between_33 fu (nI sl) (nI sr) y4 y5 1 (nI T.length + 1) q8) = some s ∧ tR st0 s T' ∧ lbK 0 T' ∧ T'.length ≤ 17 := fun v a2 b2 y4 y5 hv A2 B2 hne => by
          obtain ⟨s, s1, s2⟩ := rm_tailBy R (by omega) v
          rw [s1, Option.bind_some, List.append_assoc, nI_1]
          have := ih fu (T ++ [v]) a2 b2 y4 y5 s (by rw [len_snoc]; omega) (by omega) s2 (by rw [len_snoc, ← Nat.add_assoc]; exact A2) (by rw [len_snoc, ← Nat.add_assoc]; exact B2) (fun e1 e2 => absurd e2 (hne.resolve_left (fun k => k e1))) (fun u hu => by
            rw [List.mem_append, List.mem_singleton] at hu
            rcases hu with hu | hu
            · exact hE u hu
            · rw [hu]; exact hv)
          rw [len_snoc] at this
          exact this
        have A1 : a_odd (l.getD (P.length + T.length) 0) = false → sdR st0 (some l) (nI sl) (nI (P.length + T.length) + 1) (P.length + T.length + 1) := fun e => Or.inr ⟨l, sl, rfl, nI_1 _, rfl, a4, a5, a6.next e, a7⟩
        have B1 : a_odd (r.getD (P.length + T.length) 0) = false → sdR st0 (some r) (nI sr) (nI (P.length + T.length) + 1) (P.length + T.length + 1) := fun e => Or.inr ⟨r, sr, rfl, nI_1 _, rfl, b4, b5, b6.next e, b7⟩
        unfold g_between_106
        rw [if_neg p4, if_neg p4]
        by_cases q1 : a_abv (l.getD (P.length + T.length) 0) < r.getD (P.length + T.length) 0
        · rw [if_pos q1, if_pos q1]
          obtain ⟨s, s1, s2, s3, s4⟩ := fin (a_abv (l.getD (P.length + T.length) 0)) (nI (P.length + T.length)) (nI (P.length + T.length)) (nI T.length) (by omega) odd_abv
          refine ⟨T ++ [a_abv (l.getD (P.length + T.length) 0)], s, List.append_assoc _ _ _, ?_, s2, s3, s4⟩
          rw [← s1]
          unfold g_between_145 g_between_146
          rw [if_pos rfl, if_neg p4, if_neg p4, if_pos q1]
          unfold g_between_255 g_between_294
          rw [if_neg p4]
        · rw [if_neg q1, if_neg q1]
          by_cases ox1 : a_odd (l.getD (P.length + T.length) 0) = true
          · rw [g_odd_t ox1, Option.bind_some, if_neg n10]
            by_cases oy1 : a_odd (r.getD (P.length + T.length) 0) = true
            · rw [g_odd_t oy1, Option.bind_some, if_neg n10, if_pos ⟨ox1, oy1⟩]
              obtain ⟨s, s1, s2⟩ := rm_tailBy R (by omega) (l.getD (P.length + T.length) 0 + 1)
              obtain ⟨t, t1, t2⟩ := rm_tailBy s2 (by rw [len_snoc]; omega) 1
              refine ⟨T ++ [l.getD (P.length + T.length) 0 + 1] ++ [1], t, by simp, ?_, t2, ⟨by simp, fun i _ hi => ?_⟩, by simp; omega⟩
              · unfold g_between_145 g_between_146
                rw [if_pos rfl, if_neg p4, if_neg p4, if_neg q1, s1, Option.bind_some, t1, Option.bind_some]
                unfold g_between_297
                exact rm_btwE (by omega)
              · rw [len_snoc, len_snoc] at hi ⊢
                by_cases e1 : i < T.length
                · rw [getD_left (by rw [len_snoc]; omega), getD_left e1, hE _ (getD_mem' e1), decide_eq_false (by omega)]
                · by_cases e2 : i = T.length
                  · subst e2
                    rw [getD_left (by rw [len_snoc]; omega), getD_snoc, odd_1, ox1, decide_eq_false (by omega)]
                    rfl
                  · have e3 : i = (T ++ [l.getD (P.length + T.length) 0 + 1]).length := by rw [len_snoc]; omega
                    rw [e3, getD_snoc, len_snoc, decide_eq_true rfl]
                    exact odd_one
            · have oy : a_odd (r.getD (P.length + T.length) 0) = false := by simpa using oy1
              have ne : ¬ l.getD (P.length + T.length) 0 = r.getD (P.length + T.length) 0 := fun e => oy1 (by rw [← e]; exact ox1)
              rw [g_odd_f oy, Option.bind_some, if_pos rfl, if_neg (fun w => oy1 w.2), if_neg ne, if_neg (by rw [ox1]; decide)]
              have h141 : g_between_141 (g_between_33 fu) (nI sl) (nI sr) (nI (P.length + T.length)) (nI (P.length + T.length)) (nI T.length) (l.getD (P.length + T.length) 0) (r.getD (P.length + T.length) 0) (a_abv (l.getD (P.length + T.length) 0)) st = (g_tailBy (r.getD (P.length + T.length) 0) st).bind (fun q8 => g_between_33 fu (nI sl) (nI sr) (-1) (nI (P.length + T.length) + 1) 1 (nI T.length + 1) q8) := by
                unfold g_between_141 g_between_146
                rw [if_neg (by decide), g_odd_t ox1, Option.bind_some, if_neg n10]
                unfold g_between_169
                refine congrArg _ (funext (fun q8 => ?_))
                rw [g_odd_t ox1, Option.bind_some, if_neg n10]
                unfold g_between_192 g_between_209 g_between_217 g_between_297
                rw [if_neg ne, g_odd_t ox1, Option.bind_some, if_neg n10]
              exact (go _ none _ (-1) _ oy (Or.inl ⟨rfl, rfl⟩) (B1 oy) (Or.inr (by simp))).imp (fun T' h => h.imp (fun s k => ⟨k.1, h141.trans k.2.1, k.2.2⟩))
          · have ox : a_odd (l.getD (P.length + T.length) 0) = false := by simpa using ox1
            rw [g_odd_f ox, Option.bind_some, if_pos rfl, if_neg (fun w => ox1 w.1)]
            have h141 : g_between_141 (g_between_33 fu) (nI sl) (nI sr) (nI (P.length + T.length)) (nI (P.length + T.length)) (nI T.length) (l.getD (P.length + T.length) 0) (r.getD (P.length + T.length) 0) (a_abv (l.getD (P.length + T.length) 0)) st = (g_tailBy (l.getD (P.length + T.length) 0) st).bind (fun q8 => g_between_33 fu (nI sl) (nI sr) (nI (P.length + T.length) + 1) (if l.getD (P.length + T.length) 0 = r.getD (P.length + T.length) 0 then nI (P.length + T.length) + 1 else -1) 1 (nI T.length + 1) q8) := by
              unfold g_between_141 g_between_146
              rw [if_neg (by decide), g_odd_f ox, Option.bind_some, if_pos rfl]
              unfold g_between_169
              refine congrArg _ (funext (fun q8 => ?_))
              rw [g_odd_f ox, Option.bind_some, if_pos rfl]
              unfold g_between_192 g_between_209 g_between_217 g_between_297
              by_cases e : l.getD (P.length + T.length) 0 = r.getD (P.length + T.length) 0
              · rw [if_pos e, if_pos e]
              · rw [if_neg e, if_neg e, g_odd_f ox, Option.bind_some, if_pos rfl]
            by_cases e : l.getD (P.length + T.length) 0 = r.getD (P.length + T.length) 0
            · rw [if_pos e] at h141
              rw [if_pos e]
              exact (go _ _ _ _ _ ox (A1 ox) (B1 (by rw [← e]; exact ox)) (Or.inl (by simp))).imp (fun T' h => h.imp (fun s k => ⟨k.1, h141.trans k.2.1, k.2.2⟩))
            · rw [if_neg e] at h141
              rw [if_neg e, if_pos ox]
              exact (go _ _ none _ (-1) ox (A1 ox) (Or.inl ⟨rfl, rfl⟩) (Or.inl (by simp))).imp (fun T' h => h.imp (fun s k => ⟨k.1, h141.trans k.2.1, k.2.2⟩))
end QO2
-- insert of the reference: between, below
section QO3
variable {st : mT} {n : Nat} {D : Nat → nd} {d : Nat → Nat}
theorem rm_between (M : md (st.2.1 0) n d D) {P : List Int32} (hP : P.length ≤ 16) {lf rt : Option Nat} (hl : ∀ i, lf = some i → i < n ∧ lbK P.length (D i).2.2.2.1 ∧ (D i).2.2.2.1.length ≤ 16) (hr : ∀ i, rt = some i → i < n ∧ lbK P.length (D i).2.2.2.1 ∧ (D i).2.2.2.1.length ≤ 16) : ∃ T s, a_lb 20 P (lf.map (fun i => (D i).2.2.2.1)) (rt.map (fun i => (D i).2.2.2.1)) = P ++ T ∧ g_between (mp_sl d lf) (mp_sl d rt) (nI P.length) st = some s ∧ tR st s T ∧ lbK 0 T ∧ T.length ≤ 17 := by
  have sd : ∀ (o : Option Nat), (∀ i, o = some i → i < n ∧ lbK P.length (D i).2.2.2.1 ∧ (D i).2.2.2.1.length ≤ 16) → ∃ pos, sdR st (o.map (fun i => (D i).2.2.2.1)) (mp_sl d o) pos (P.length + ([] : List Int32).length) ∧ (if mp_sl d o < 0 then (-1 : Int32) else nI P.length) = pos := fun o ho => by
    cases o with
    | none => exact ⟨-1, Or.inl ⟨rfl, rfl⟩, if_pos (show (-1 : Int32) < 0 by decide)⟩
    | some i =>
      obtain ⟨h1, h2, h3⟩ := ho i rfl
      have hd := (M.2.2.1 i h1).1
      exact ⟨nI P.length, Or.inr ⟨(D i).2.2.2.1, d i, rfl, rfl, rfl, hd, (M.2.2.2.2.1 i h1).2.2.2.2.2.2.2.1, h2, h3⟩, if_neg (show ¬ nI (d i) < 0 from nI_pos (by omega))⟩
  obtain ⟨p1, s1, e1⟩ := sd lf hl
  obtain ⟨p2, s2, e2⟩ := sd rt hr
  have R : tR st (mm_F st 23 0) [] := ⟨fun k hk => fF_n hk, fF_s, fun a _ => rfl, fun i hi => absurd hi (by simp), rfl⟩
  obtain ⟨T, s, a1, a2, a3, a4, a5⟩ := rm_btwL hP 20 mF [] _ _ p1 p2 (mm_F st 23 0) rfl (by unfold mF; omega) R s1 s2 (fun _ _ => rfl) (fun v hv => by cases hv)
  rw [List.append_nil] at a1
  refine ⟨T, s, a1, ?_, a3, a4, a5⟩
  rw [← a2]
  unfold g_between g_between_14 g_between_25
  simp only [mm_lt]
  rw [← e1, ← e2]
  by_cases q1 : mp_sl d lf < 0
  · rw [if_pos q1, if_pos q1]
    by_cases q2 : mp_sl d rt < 0
    · rw [if_pos q2, if_pos q2]
      rfl
    · rw [if_neg q2, if_neg q2]
      rfl
  · rw [if_neg q1, if_neg q1]
    by_cases q2 : mp_sl d rt < 0
    · rw [if_pos q2, if_pos q2]
      rfl
    · rw [if_neg q2, if_neg q2]
      rfl
/-- depths within what is read -/
def wRel (od : Nat) (W : List wn) (i : Nat) : Nat := (W.getD i wn0).2.2.1 - od
theorem rm_bl28 {W : List wn} {od : Nat} {ov : Bool} (I : wI od W ov) (hlo : ∀ i, i < W.length → od ≤ (W.getD i wn0).2.2.1) (h40 : W.length ≤ 40) (hp : ∀ i, i < W.length → st.2.1 2 (128 * i + 2) = wPs (W.getD i wn0).2.1) {k4 : Int32 → Int32 → mT → Option (Int32 × mT)} {x1 x2 : Int32} : ∀ (K fu i c : Nat), i < K → K ≤ fu → i < W.length → g_below_28 k4 fu x1 x2 (nI c) (wPs (W.getD i wn0).2.1) st = (if nI (c + wRel od W i) ≤ x1 then k4 x1 (x2 + 1) st else k4 (nI (c + wRel od W i)) (x2 + 1) st) := by
  intro K
  induction K with
  | zero => intro fu i c h; omega
  | succ K ih =>
    intro fu i c h1 h2 hi
    obtain ⟨fu, rfl⟩ : ∃ f, fu = f + 1 := ⟨fu - 1, by omega⟩
    unfold g_below_28 g_below_64
    cases e : (W.getD i wn0).2.1 with
    | none =>
      have := ((I.par hi).1 e).1
      rw [if_pos (show wPs none < 0 by decide), show wRel od W i = 0 by unfold wRel; omega, Nat.add_zero]
    | some j =>
      obtain ⟨p1, _, p3, _⟩ := (I.par hi).2 j e
      have l1 := hlo i hi
      have l2 := hlo j (by omega)
      rw [if_neg (show ¬ wPs (some j) < 0 from nI_pos (by omega)), show (128 : Int32) * wPs (some j) + 2 = nI (128 * j + 2) from e128 (o := 2), mp_ld (by omega) (by decide), hp j (by omega), nI_1, ih fu j (c + 1) (by omega) (by omega) (by omega), show c + 1 + wRel od W j = c + wRel od W i by unfold wRel; omega]
theorem rm_bl4 {W : List wn} {od : Nat} {ov : Bool} (I : wI od W ov) (hlo : ∀ i, i < W.length → od ≤ (W.getD i wn0).2.2.1) (h40 : W.length ≤ 40) (h10 : st.1 10 = nI W.length) (hp : ∀ i, i < W.length → st.2.1 2 (128 * i + 2) = wPs (W.getD i wn0).2.1) : ∀ (r fu k B : Nat), k + r = W.length → r < fu → B ≤ 6 → ∃ B2, g_below_4 fu (nI B) (nI k) st = some (nI B2, st) ∧ B ≤ B2 ∧ B2 ≤ 6 ∧ (∀ i, k ≤ i → i < W.length → wRel od W i ≤ B2) ∧ (B2 = B ∨ ∃ i, k ≤ i ∧ i < W.length ∧ wRel od W i = B2) := by
  intro r
  induction r with
  | zero =>
    intro fu k B h1 h2 hB
    obtain ⟨fu, rfl⟩ : ∃ f, fu = f + 1 := ⟨fu - 1, by omega⟩
    refine ⟨B, ?_, Nat.le_refl _, hB, fun i h3 h4 => by omega, Or.inl rfl⟩
    unfold g_below_4
    rw [h10, if_pos (nI_le (by omega) (by omega))]
  | succ r ih =>
    intro fu k B h1 h2 hB
    obtain ⟨fu, rfl⟩ : ∃ f, fu = f + 1 := ⟨fu - 1, by omega⟩
    have d6 := (I.1 k (by omega)).2.2.1.2.1
    have r6 : wRel od W k ≤ 6 := by unfold wRel; omega
    have e0 : g_below_4 (fu + 1) (nI B) (nI k) st = (if nI (wRel od W k) ≤ nI B then g_below_4 fu (nI B) (nI (k + 1)) st else g_below_4 fu (nI (wRel od W k)) (nI (k + 1)) st) := by
      conv => lhs; unfold g_below_4
      rw [h10, if_neg (nI_ge (by omega) (by omega)), show (128 : Int32) * nI k + 2 = nI (128 * k + 2) from e128 (o := 2), mp_ld (by omega) (by decide), hp k (by omega)]
      have := rm_bl28 (st := st) (k4 := g_below_4 fu) (x1 := nI B) (x2 := nI k) I hlo h40 hp (k + 1) mF k 0 (by omega) (by unfold mF; omega) (by omega)
      rw [Nat.zero_add, nI_1] at this
      exact this
    rw [e0]
    by_cases q : wRel od W k ≤ B
    · rw [if_pos (nI_le q (by omega))]
      obtain ⟨B2, a1, a2, a3, a4, a5⟩ := ih fu (k + 1) B (by omega) (by omega) hB
      refine ⟨B2, a1, a2, a3, fun i h3 h4 => ?_, a5.imp id (fun ⟨i, x, y, z⟩ => ⟨i, by omega, y, z⟩)⟩
      by_cases e : i = k
      · rw [e]; omega
      · exact a4 i (by omega) h4
    · rw [if_neg (nI_ge (by omega) (by omega))]
      obtain ⟨B2, a1, a2, a3, a4, a5⟩ := ih fu (k + 1) (wRel od W k) (by omega) (by omega) r6
      refine ⟨B2, a1, by omega, a3, fun i h3 h4 => ?_, Or.inr ?_⟩
      · by_cases e : i = k
        · rw [e]; omega
        · exact a4 i (by omega) h4
      · rcases a5 with h | ⟨i, x, y, z⟩
        · exact ⟨k, Nat.le_refl _, by omega, h.symm⟩
        · exact ⟨i, by omega, y, z⟩
theorem rm_below {W : List wn} {od : Nat} {ov : Bool} (I : wI od W ov) (hlo : ∀ i, i < W.length → od ≤ (W.getD i wn0).2.2.1) (h40 : W.length ≤ 40) (h10 : st.1 10 = nI W.length) (hp : ∀ i, i < W.length → st.2.1 2 (128 * i + 2) = wPs (W.getD i wn0).2.1) : ∃ B, g_below st = some (nI B, st) ∧ B ≤ 6 ∧ (∀ i, i < W.length → wRel od W i ≤ B) ∧ (B = 0 ∨ ∃ i, i < W.length ∧ wRel od W i = B) := by
  obtain ⟨B, a1, a2, a3, a4, a5⟩ := rm_bl4 I hlo h40 h10 hp W.length mF 0 0 (by omega) (by unfold mF; omega) (by omega)
  exact ⟨B, a1, a3, fun i hi => a4 i (Nat.zero_le _) hi, a5.imp id (fun ⟨i, _, y, z⟩ => ⟨i, y, z⟩)⟩
end QO3
