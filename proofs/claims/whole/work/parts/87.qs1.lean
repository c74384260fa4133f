-- paths: what they lead to
def q_rng (a b : Nat) : List Nat := (List.range (b - a)).map (fun i => a + i)
def q_anc (D : Nat → nd) : Nat → Nat → List Nat
  | 0, _ => []
  | f + 1, x => match (D x).2.2.1 with
    | none => []
    | some p => p :: q_anc D f p
def q_ax (n : Nat) (D : Nat → nd) (a : Nat) (x : Option Nat) : List Nat := match x with
  | none => if a = 0 then (if n = 0 then [] else [0]) else if a = 1 ∨ a = 2 then q_rng 0 n else []
  | some x => if a = 0 then (q_rng (x + 1) n).filter (fun k => decide ((D k).2.2.1 = some x)) else if a = 1 then q_rng (x + 1) (a_end n D x) else if a = 2 then x :: q_rng (x + 1) (a_end n D x) else if a = 3 then (q_anc D 1 x) else if a = 4 then q_anc D 50 x else if a = 5 then x :: q_anc D 50 x else if a = 6 then [x] else if a = 7 then (q_rng (x + 1) n).filter (fun k => decide ((D k).2.2.1 = (D x).2.2.1)) else if a = 8 then (q_rng 0 x).reverse.filter (fun k => decide ((D k).2.2.1 = (D x).2.2.1)) else if a = 9 then q_rng (a_end n D x) n else (q_rng 0 x).reverse.filter (fun k => decide (a_end n D k ≤ x))
def q_kd (D : Nat → nd) (k : Nat) (nm : List Nat) (y : Nat) : Bool := if k = 0 then decide ((D y).2.1 = 1 ∧ (D y).2.2.2.2.2 = nm) else if k = 4 then true else decide ((D y).2.1 = k)
/-- a predicate of an attribute -/
def q_hat (D : Nat → nd) (what : Nat) (nm str : List Nat) (y : Nat) : Bool := decide ((D y).2.1 = 1) && (match (D y).2.2.2.2.1.find? (fun q => decide (q.1 = nm)) with
  | none => false
  | some q => decide (what = 2 ∨ q.2 = str))
/-- the text of a node and of all that lies in it -/
def q_sv (n : Nat) (D : Nat → nd) (y : Nat) : List Nat := ((q_rng y (a_end n D y)).map (fun q => if (D q).2.1 = 2 ∨ (q = y ∧ (D q).2.1 = 3) then (D q).2.2.2.2.2 else [])).flatten
def q_rd (n : Nat) (D : Nat → nd) (y : Nat) (str : List Nat) (beg : Bool) : Bool := if beg = true then str.isPrefixOf (q_sv n D y) else decide (q_sv n D y = str)
/-- those of a list for which h holds at their position -/
def q_flt (h : Nat → Nat → Nat → Bool) (of : Nat) : Nat → List Nat → List Nat
  | _, [] => []
  | k, x :: l => if h x k of = true then x :: q_flt h of (k + 1) l else q_flt h of (k + 1) l
def q_sft {α : Type} (H : α → Nat → Nat → Nat → Bool) : List α → List Nat → List Nat
  | [], l => l
  | pr :: ps, l => q_sft H ps (q_flt (H pr) l.length 1 l)
def q_stp {α : Type} (n : Nat) (D : Nat → nd) (H : α → Nat → Nat → Nat → Bool) (s : Nat × Nat × List Nat × List α) (x : Option Nat) : List Nat := q_sft H s.2.2.2 ((q_ax n D s.1 x).filter (q_kd D s.2.1 s.2.2.1))
def q_nx {α : Type} (n : Nat) (D : Nat → nd) (H : α → Nat → Nat → Nat → Bool) (s : Nat × Nat × List Nat × List α) (S : Nat → Bool) (y : Nat) : Bool := (List.range n).any (fun z => S z && decide (y ∈ q_stp n D H s (some z)))
def q_ld {α : Type} (n : Nat) (D : Nat → nd) (H : α → Nat → Nat → Nat → Bool) : List (Nat × Nat × List Nat × List α) → (Nat → Bool) → Nat → Bool
  | [], S => S
  | s :: l, S => q_ld n D H l (q_nx n D H s S)
def q_rch {α : Type} (n : Nat) (D : Nat → nd) (H : α → Nat → Nat → Nat → Bool) (l : List (Nat × Nat × List Nat × List α)) (x : Option Nat) : Nat → Bool := match l with
  | [] => fun _ => false
  | s :: l => q_ld n D H l (fun y => decide (y ∈ q_stp n D H s x))
/-- does a path in a predicate hold from x -/
def q_hit {α : Type} (n : Nat) (D : Nat → nd) (H : α → Nat → Nat → Nat → Bool) (what : Nat) (str : List Nat) (ab : Bool) (l : List (Nat × Nat × List Nat × List α)) (x : Nat) : Bool := (List.range n).any (fun y => q_rch n D H l (if ab = true then none else some x) y && (if what = 4 then true else q_rd n D y str (decide (what = 6))))
def q_H (n : Nat) (D : Nat → nd) : (N : Nat) → qPr N → Nat → Nat → Nat → Bool
  | 0, _, _, _, _ => false
  | N + 1, pr, x, k, of => pr.1 != (if pr.2.1 = 0 then decide (k = pr.2.2.1) else if pr.2.1 = 1 then decide (k = of) else if pr.2.1 < 4 then q_hat D pr.2.1 pr.2.2.2.1 pr.2.2.2.2.1 x else q_hit n D (q_H n D N) pr.2.1 pr.2.2.2.2.1 pr.2.2.2.2.2.1 pr.2.2.2.2.2.2 x)
def q_ans (n : Nat) (D : Nat → nd) (pt : qPt 3) (x : Nat) : List Nat := (List.range n).filter (q_rch n D (q_H n D 3) pt.2 (if pt.1 = true then none else some x))
-- sets of places as bits
def bt (m : Int64) (y : Nat) : Bool := m.toBitVec.getLsbD y
def bR (m : Int64) (S : Nat → Bool) : Prop := ∀ y, y < 64 → bt m y = S y
theorem b_zero {y : Nat} : bt 0 y = false := by unfold bt; simp
theorem b_or {a c : Int64} {y : Nat} : bt (a ||| c) y = (bt a y || bt c y) := by
  unfold bt
  rw [Int64.toBitVec_or, BitVec.getLsbD_or]
theorem b_sh {x : Nat} (h : x < 64) : (nI x).toInt64 &&& 63 = Int64.ofNat x := by
  rw [nI_l (by omega)]
  revert x
  decide
theorem b_one0 : ∀ x, x < 64 → ∀ y, y < 64 → bt ((1 : Int64) <<< (Int64.ofNat x)) y = decide (y = x) := by decide +kernel
theorem b_one {x y : Nat} (h : x < 64) (hy : y < 64) : bt ((1 : Int64) <<< ((nI x).toInt64 &&& 63)) y = decide (y = x) := by
  rw [b_sh h]
  exact b_one0 x h y hy
theorem b_smod : ∀ y, y < 64 → ((Int64.ofNat y).toBitVec.smod 64).toNat = y := by decide +kernel
theorem b_and1 {m : Int64} {y : Nat} (h : y < 64) : (m >>> ((nI y).toInt64 &&& 63)) &&& 1 = if bt m y = true then 1 else 0 := by
  rw [b_sh h, ← Int64.toBitVec_inj, Int64.toBitVec_and, Int64.toBitVec_shiftRight]
  refine BitVec.eq_of_getLsbD_eq (fun i hi => ?_)
  have e1 : (1 : Int64).toBitVec.getLsbD i = decide (i = 0) := by
    show (1#64).getLsbD i = _
    rw [BitVec.getLsbD_one]
    simp
  rw [BitVec.getLsbD_and, e1]
  by_cases q : i = 0
  · subst q
    rw [decide_eq_true rfl, Bool.and_true]
    have e2 : (m.toBitVec.sshiftRight' ((Int64.ofNat y).toBitVec.smod 64)).getLsbD 0 = bt m y := by
      unfold bt BitVec.sshiftRight'
      rw [b_smod y h, BitVec.getLsbD_sshiftRight]
      simp [h]
    rw [e2]
    cases bt m y with
    | true => rfl
    | false => rfl
  · rw [decide_eq_false q, Bool.and_false]
    cases bt m y with
    | true => show false = (1 : Int64).toBitVec.getLsbD i; rw [e1, decide_eq_false q]
    | false => show false = (0 : Int64).toBitVec.getLsbD i; simp
theorem b_test {m : Int64} {y : Nat} (h : y < 64) : mm_cmp ((m >>> ((nI y).toInt64 &&& 63)) &&& (1 : Int64)) (1 : Int64) = 0 ↔ bt m y = true := by
  rw [b_and1 h]
  cases bt m y with
  | true => simp only [if_true]; exact ⟨fun _ => trivial, fun _ => by decide⟩
  | false => exact ⟨fun w => absurd w (by decide), fun w => by cases w⟩
theorem b_ext {a c : Int64} (h : ∀ y, y < 64 → bt a y = bt c y) : a = c := by
  rw [← Int64.toBitVec_inj]
  exact BitVec.eq_of_getLsbD_eq (fun i hi => h i hi)
theorem b_cmp0 {m : Int64} : mm_cmp m 0 = 0 ↔ ∀ y, y < 64 → bt m y = false := by
  unfold mm_cmp
  constructor
  · intro w y hy
    split at w
    · exact absurd w (by decide)
    · split at w
      · rename_i e; rw [e]; exact b_zero
      · exact absurd w (by decide)
  · intro w
    have : m = 0 := b_ext (fun y hy => by rw [w y hy, b_zero])
    rw [this]
    decide
-- the reference gathers the nodes of an axis
def lS (st0 st : mT) (l : List Nat) : Prop := (∀ k, k ≠ 53 → st.1 k = st0.1 k) ∧ st.1 53 = nI l.length ∧ (∀ a, a ≠ 54 → st.2.1 a = st0.2.1 a) ∧ (∀ i, i < l.length → st.2.1 54 i = nI (l.getD i 0)) ∧ st.2.2 = st0.2.2
theorem q_rng_nil {a b : Nat} (h : b ≤ a) : q_rng a b = [] := by unfold q_rng; rw [show b - a = 0 by omega]; rfl
theorem q_rng_cons {a b : Nat} (h : a < b) : q_rng a b = a :: q_rng (a + 1) b := by
  unfold q_rng
  rw [show b - a = (b - (a + 1)) + 1 by omega, List.range_succ_eq_map, List.map_cons, List.map_map]
  congr 1
  refine List.map_congr_left (fun i _ => ?_)
  show a + (i + 1) = a + 1 + i
  omega
theorem q_rng_snoc {b : Nat} : q_rng 0 (b + 1) = q_rng 0 b ++ [b] := by
  unfold q_rng
  rw [Nat.sub_zero, Nat.sub_zero, List.range_succ, List.map_append]
  simp
theorem q_rng_len {a b : Nat} : (q_rng a b).length = b - a := by unfold q_rng; rw [List.length_map, List.length_range]
theorem q_rng_mem {a b y : Nat} : y ∈ q_rng a b ↔ a ≤ y ∧ y < b := by
  unfold q_rng
  rw [List.mem_map]
  constructor
  · rintro ⟨i, h1, h2⟩
    rw [List.mem_range] at h1
    omega
  · rintro ⟨h1, h2⟩
    exact ⟨y - a, by rw [List.mem_range]; omega, by omega⟩
theorem q_anc_len {mk n : Nat} {D : Nat → nd} (ok : nd_ok mk n D) : ∀ (f x : Nat), x < n → (q_anc D f x).length ≤ x ∧ ∀ y ∈ q_anc D f x, y < x := by
  intro f
  induction f with
  | zero => intro x _; exact ⟨Nat.zero_le _, fun y hy => by cases hy⟩
  | succ f ih =>
    intro x hx
    unfold q_anc
    cases e : (D x).2.2.1 with
    | none => exact ⟨Nat.zero_le _, fun y hy => by cases hy⟩
    | some p =>
      have hp := (ok.2 x hx).2.2.1 p e
      have := ih p (by omega)
      refine ⟨by simp only [List.length_cons]; omega, fun y hy => ?_⟩
      rcases List.mem_cons.mp hy with h | h
      · omega
      · have := this.2 y h; omega
section QS2
variable {st0 st : mT} {mk n : Nat} {D : Nat → nd} {d : Nat → Nat} {a x : Nat}
theorem lS.md {l : List Nat} (L : lS st0 st l) (M : md (st0.2.1 0) n d D) : md (st.2.1 0) n d D := by rw [L.2.2.1 0 (by decide)]; exact M
theorem rw_entry {l : List Nat} (L : lS st0 st l) (hl : l.length < 41) (k : Nat) : ∃ s, g_entry (nI k) st = some s ∧ lS st0 s (l ++ [k]) := by
  obtain ⟨l1, l2, l3, l4, l5⟩ := L
  refine ⟨mm_F (mm_G st 54 l.length (nI k)) 53 (nI (l.length + 1)), ?_, fun j hj => (fF_n hj).trans (l1 j hj), ?_, fun b hb => ?_, fun i hi => ?_, l5⟩
  · unfold g_entry
    rw [l2, mp_ix hl (by decide)]
    simp only [mm_lt]
    rw [show (mm_G st 54 l.length (nI k)).1 53 = nI l.length from l2, nI_1]
  · rw [len_snoc]; exact fF_s
  · show (mm_G st 54 l.length (nI k)).2.1 b = _
    rw [fG_n hb]
    exact l3 b hb
  · rw [len_snoc] at hi
    show (mm_G st 54 l.length (nI k)).2.1 54 i = _
    by_cases e : i < l.length
    · rw [fG_i (by omega), getD_left e]; exact l4 i e
    · have e2 : i = l.length := by omega
      subst e2
      rw [fG_s, getD_snoc]
theorem rw_entries {b : Nat} (hb : b ≤ 40) : ∀ (r fu k : Nat) (l : List Nat) (st : mT), k + r = b ∨ (r = 0 ∧ b ≤ k) → k ≤ 1000 → r < fu → lS st0 st l → l.length + r ≤ 41 → ∃ s, g_entries_2 fu (nI b) (nI k) st = some s ∧ lS st0 s (l ++ q_rng k b) := by
  intro r
  induction r with
  | zero =>
    intro fu k l st h1 hk h2 L hl
    obtain ⟨fu, rfl⟩ : ∃ f, fu = f + 1 := ⟨fu - 1, by omega⟩
    refine ⟨st, ?_, by rw [q_rng_nil (by omega), List.append_nil]; exact L⟩
    unfold g_entries_2
    rw [if_pos (nI_le (by omega) (by omega))]
  | succ r ih =>
    intro fu k l st h1 hk h2 L hl
    obtain ⟨fu, rfl⟩ : ∃ f, fu = f + 1 := ⟨fu - 1, by omega⟩
    obtain ⟨s, a1, a2⟩ := rw_entry L (by omega) k
    obtain ⟨s2, b1, b2⟩ := ih fu (k + 1) (l ++ [k]) s (Or.inl (by omega)) (by omega) (by omega) a2 (by rw [len_snoc]; omega)
    refine ⟨s2, ?_, ?_⟩
    · unfold g_entries_2
      rw [if_neg (nI_ge (by omega) (by omega)), a1, Option.bind_some, nI_1]
      exact b1
    · rw [q_rng_cons (by omega)]
      rw [List.append_assoc] at b2
      exact b2
theorem rw_ents {k b : Nat} {l : List Nat} (hb : b ≤ 40) (hk : k ≤ 41) (L : lS st0 st l) (hl : l.length + (b - k) ≤ 41) : ∃ s, g_entries (nI k) (nI b) st = some s ∧ lS st0 s (l ++ q_rng k b) := by
  unfold g_entries
  exact rw_entries hb (b - k) mF k l st (by omega) (by omega) (by unfold mF; omega) L hl
theorem rw_same (M : md (st.2.1 0) n d D) (ok : nd_ok mk n D) {k j : Nat} (hk : k < n) (hj : j < n) : g_sameParent (nI k) (nI j) st = some (if (D k).2.2.1 = (D j).2.2.1 then 1 else 0, st) := by
  have hD := md_D M
  unfold g_sameParent
  rw [mp_bd (mp_dc hD hk)]
  simp only []
  rw [mp_bd (mp_fpc hD hk)]
  simp only []
  rw [mp_bd (mp_dc hD hj)]
  simp only []
  rw [mp_bd (mp_fpc hD hj)]
  have e := md_pe M ok hk hj
  rw [decide_eq_decide] at e
  by_cases q : (D k).2.2.1 = (D j).2.2.1
  · rw [if_pos (e.mpr q), if_pos q]
  · rw [if_neg (fun w => q (e.mp w)), if_neg q]
def q6 (n : Nat) (D : Nat → nd) (a x k : Nat) : Bool := decide ((a = 8 ∧ (D k).2.2.1 = (D x).2.2.1) ∨ (a = 10 ∧ a_end n D k ≤ x))
def q5 (D : Nat → nd) (a x k : Nat) : Bool := decide ((a = 0 ∧ (D k).2.2.1 = some x) ∨ (a = 7 ∧ (D k).2.2.1 = (D x).2.2.1))
theorem rw_236 (M0 : md (st0.2.1 0) n d D) (ok : nd_ok mk n D) (hx : x < n) (ha : a ≤ 10) : ∀ (k fu : Nat) (l : List Nat) (st : mT), k ≤ x → k < fu → lS st0 st l → l.length + k ≤ 41 → ∃ s, g_gather_236 fu (nI a) (nI x) (nI k - 1) st = some s ∧ lS st0 s (l ++ (q_rng 0 k).reverse.filter (q6 n D a x)) := by
  have hn := M0.1
  have i8 : nI a = 8 ↔ a = 8 := nI_eq (b := 8) (by omega) (by decide)
  have i10 : nI a = 10 ↔ a = 10 := nI_eq (b := 10) (by omega) (by decide)
  intro k
  induction k with
  | zero =>
    intro fu l st h1 h2 L hl
    obtain ⟨fu, rfl⟩ : ∃ f, fu = f + 1 := ⟨fu - 1, by omega⟩
    refine ⟨st, ?_, by rw [q_rng_nil (Nat.le_refl _)]; simp; exact L⟩
    unfold g_gather_236
    rw [if_pos (by decide)]
  | succ k ih =>
    intro fu l st h1 h2 L hl
    obtain ⟨fu, rfl⟩ : ∃ f, fu = f + 1 := ⟨fu - 1, by omega⟩
    have M := L.md M0
    have e1 : nI (k + 1) - 1 = nI k := by rw [show (1 : Int32) = nI 1 from rfl, nI_sub (by omega)]; rfl
    rw [e1, q_rng_snoc, List.reverse_append, List.reverse_singleton, List.singleton_append, List.filter_cons]
    have no : g_gather_279 (g_gather_236 fu) (nI a) (nI x) (nI k) st = g_gather_236 fu (nI a) (nI x) (nI k - 1) st := by
      unfold g_gather_279
      rw [show nI k + -1 = nI k - 1 from (Int32.sub_eq_add_neg _ _).symm]
    have yes : ∃ s, g_gather_273 (g_gather_236 fu) (nI a) (nI x) (nI k) st = some s ∧ lS st0 s (l ++ (k :: (q_rng 0 k).reverse.filter (q6 n D a x))) := by
      obtain ⟨s, a1, a2⟩ := rw_entry L (by omega) k
      obtain ⟨s2, b1, b2⟩ := ih fu (l ++ [k]) s (by omega) (by omega) a2 (by rw [len_snoc]; omega)
      refine ⟨s2, ?_, ?_⟩
      · unfold g_gather_273 g_gather_279
        rw [a1, Option.bind_some, show nI k + -1 = nI k - 1 from (Int32.sub_eq_add_neg _ _).symm]
        exact b1
      · rw [List.append_assoc] at b2; exact b2
    have e257 : ∀ (c : Prop) [Decidable c], ¬ (a = 8 ∧ (D k).2.2.1 = (D x).2.2.1) → ∃ s, g_gather_257 (g_gather_236 fu) (nI a) (nI x) (nI k) st = some s ∧ lS st0 s (l ++ (if q6 n D a x k = true then k :: (q_rng 0 k).reverse.filter (q6 n D a x) else (q_rng 0 k).reverse.filter (q6 n D a x))) := fun _ _ h8 => by
      unfold g_gather_257
      by_cases q10 : a = 10
      · have he := (mp_end_spec (pa := fun k => (D k).2.2.1) (show k < n by omega)).2.1
        rw [if_pos (i10.mpr q10), mp_bd (mp_gend (md_D M) (md_P M ok) (show k < n by omega))]
        by_cases qe : a_end n D k ≤ x
        · rw [if_neg (show ¬ nI x < nI (mp_end (fun k => (D k).2.2.1) n k) from nI_nlt qe (by omega)), if_pos (show q6 n D a x k = true from decide_eq_true (Or.inr ⟨q10, qe⟩))]
          exact yes
        · rw [if_pos (show nI x < nI (mp_end (fun k => (D k).2.2.1) n k) from nI_lt (by unfold a_end at qe; omega) (by omega)), if_neg (by unfold q6; simp only [decide_eq_true_eq]; exact fun w => w.elim h8 (fun k => qe k.2)), no]
          exact ih fu l st (by omega) (by omega) L (by omega)
      · rw [if_neg (fun w => q10 (i10.mp w)), if_neg (by unfold q6; simp only [decide_eq_true_eq]; exact fun w => w.elim h8 (fun k => q10 k.1)), no]
        exact ih fu l st (by omega) (by omega) L (by omega)
    unfold g_gather_236
    rw [if_neg (nI_pos (by omega))]
    by_cases q8 : a = 8
    · rw [if_pos (i8.mpr q8), rw_same M ok (by omega) hx, Option.bind_some]
      by_cases qp : (D k).2.2.1 = (D x).2.2.1
      · rw [if_pos qp, if_neg (show ¬ ((1 : Int32), st).1 = 0 from (by decide : ¬ (1 : Int32) = 0)), if_pos (show q6 n D a x k = true from decide_eq_true (Or.inl ⟨q8, qp⟩))]
        exact yes
      · rw [if_neg qp, if_pos rfl]
        exact e257 True (fun w => qp w.2)
    · rw [if_neg (fun w => q8 (i8.mp w))]
      exact e257 True (fun w => q8 w.1)
theorem rw_174 (M0 : md (st0.2.1 0) n d D) (ok : nd_ok mk n D) (hx : x < n) (ha : a ≤ 10) : ∀ (r fu k : Nat) (l : List Nat) (st : mT), k + r = n → r < fu → lS st0 st l → l.length + r + x ≤ 41 → ∃ s, g_gather_174 fu (nI a) (nI x) (nI n) (nI k) st = some s ∧ lS st0 s (l ++ ((q_rng k n).filter (q5 D a x) ++ (q_rng 0 x).reverse.filter (q6 n D a x))) := by
  have hn := M0.1
  have i0 : nI a = 0 ↔ a = 0 := nI_eq (b := 0) (by omega) (by decide)
  have i7 : nI a = 7 ↔ a = 7 := nI_eq (b := 7) (by omega) (by decide)
  intro r
  induction r with
  | zero =>
    intro fu k l st h1 h2 L hl
    obtain ⟨fu, rfl⟩ : ∃ f, fu = f + 1 := ⟨fu - 1, by omega⟩
    unfold g_gather_174
    rw [if_pos (nI_le (by omega) (by omega)), q_rng_nil (by omega)]
    exact rw_236 M0 ok hx ha x mF l st (Nat.le_refl _) (by unfold mF; omega) L (by omega)
  | succ r ih =>
    intro fu k l st h1 h2 L hl
    obtain ⟨fu, rfl⟩ : ∃ f, fu = f + 1 := ⟨fu - 1, by omega⟩
    have M := L.md M0
    have hD := md_D M
    rw [q_rng_cons (by omega), List.filter_cons]
    have no : g_gather_225 (g_gather_174 fu) (nI a) (nI x) (nI n) (nI k) st = g_gather_174 fu (nI a) (nI x) (nI n) (nI (k + 1)) st := by unfold g_gather_225; rw [nI_1]
    have yes : ∃ s, g_gather_219 (g_gather_174 fu) (nI a) (nI x) (nI n) (nI k) st = some s ∧ lS st0 s (l ++ ((k :: (q_rng (k + 1) n).filter (q5 D a x)) ++ (q_rng 0 x).reverse.filter (q6 n D a x))) := by
      obtain ⟨s, a1, a2⟩ := rw_entry L (by omega) k
      obtain ⟨s2, b1, b2⟩ := ih fu (k + 1) (l ++ [k]) s (by omega) (by omega) a2 (by rw [len_snoc]; omega)
      refine ⟨s2, ?_, ?_⟩
      · unfold g_gather_219 g_gather_225
        rw [a1, Option.bind_some, nI_1]
        exact b1
      · rw [List.append_assoc] at b2; exact b2
    have e203 : ¬ (a = 0 ∧ (D k).2.2.1 = some x) → ∃ s, g_gather_203 (g_gather_174 fu) (nI a) (nI x) (nI n) (nI k) st = some s ∧ lS st0 s (l ++ ((if q5 D a x k = true then k :: (q_rng (k + 1) n).filter (q5 D a x) else (q_rng (k + 1) n).filter (q5 D a x)) ++ (q_rng 0 x).reverse.filter (q6 n D a x))) := fun h0 => by
      unfold g_gather_203
      by_cases q7 : a = 7
      · rw [if_pos (i7.mpr q7), rw_same M ok (by omega) hx, Option.bind_some]
        by_cases qp : (D k).2.2.1 = (D x).2.2.1
        · rw [if_pos qp, if_neg (show ¬ ((1 : Int32), st).1 = 0 from (by decide : ¬ (1 : Int32) = 0)), if_pos (show q5 D a x k = true from decide_eq_true (Or.inr ⟨q7, qp⟩))]
          exact yes
        · rw [if_neg qp, if_pos rfl, if_neg (by unfold q5; simp only [decide_eq_true_eq]; exact fun w => w.elim h0 (fun k => qp k.2)), no]
          exact ih fu (k + 1) l st (by omega) (by omega) L (by omega)
      · rw [if_neg (fun w => q7 (i7.mp w)), if_neg (by unfold q5; simp only [decide_eq_true_eq]; exact fun w => w.elim h0 (fun k => q7 k.1)), no]
        exact ih fu (k + 1) l st (by omega) (by omega) L (by omega)
    unfold g_gather_174
    rw [if_neg (nI_ge (by omega) (by omega))]
    by_cases q0 : a = 0
    · rw [if_pos (i0.mpr q0), mp_bd (mp_dc hD (show k < n by omega))]
      simp only []
      rw [mp_bd (mp_fpc hD (show k < n by omega))]
      simp only []
      rw [mp_bd (mp_dc hD hx)]
      have e := md_pa M ok (show k < n by omega) hx
      rw [decide_eq_decide] at e
      simp only []
      by_cases qp : (D k).2.2.1 = some x
      · rw [if_pos (e.mpr qp), if_pos (show q5 D a x k = true from decide_eq_true (Or.inl ⟨q0, qp⟩))]
        exact yes
      · rw [if_neg (fun w => qp (e.mp w))]
        exact e203 (fun w => qp w.2)
    · rw [if_neg (fun w => q0 (i0.mp w))]
      exact e203 (fun w => q0 w.1)
end QS2
-- the reference gathers: all of it
section QS3
variable {st0 st : mT} {mk n : Nat} {D : Nat → nd} {d : Nat → Nat} {a x : Nat}
def qT (n : Nat) (D : Nat → nd) (a x : Nat) : List Nat := (q_rng (x + 1) n).filter (q5 D a x) ++ (q_rng 0 x).reverse.filter (q6 n D a x)
theorem rw_169 (M0 : md (st0.2.1 0) n d D) (ok : nd_ok mk n D) (hx : x < n) (ha : a ≤ 10) {l : List Nat} (L : lS st0 st l) (hl : l.length + n ≤ 42) : ∃ s, g_gather_169 (nI a) (nI x) (nI n) st = some s ∧ lS st0 s (l ++ qT n D a x) := by
  unfold g_gather_169
  rw [nI_1]
  have hn := M0.1
  exact rw_174 M0 ok hx ha (n - (x + 1)) mF (x + 1) l st (by omega) (by unfold mF; omega) L (by omega)
/-- with a list that is already there, no entry follows but for these axes -/
theorem qT_nil (h0 : a ≠ 0) (h7 : a ≠ 7) (h8 : a ≠ 8) (h10 : a ≠ 10) : qT n D a x = [] := by
  unfold qT
  have e5 : ∀ l : List Nat, l.filter (q5 D a x) = [] := fun l => by
    rw [List.filter_eq_nil_iff]
    intro k _
    unfold q5
    simp only [decide_eq_true_eq]
    exact fun w => w.elim (fun k => h0 k.1) (fun k => h7 k.1)
  have e6 : ∀ l : List Nat, l.filter (q6 n D a x) = [] := fun l => by
    rw [List.filter_eq_nil_iff]
    intro k _
    unfold q6
    simp only [decide_eq_true_eq]
    exact fun w => w.elim (fun k => h8 k.1) (fun k => h10 k.1)
  rw [e5, e6]
  rfl
/-- the loops go through, though nothing is entered -/
theorem rw_169n (M0 : md (st0.2.1 0) n d D) (ok : nd_ok mk n D) (hx : x < n) (ha : a ≤ 10) (h0 : a ≠ 0) (h7 : a ≠ 7) (h8 : a ≠ 8) (h10 : a ≠ 10) {l : List Nat} (L : lS st0 st l) : g_gather_169 (nI a) (nI x) (nI n) st = some st := by
  have hn := M0.1
  have j : ∀ k, k ≤ 10 → a ≠ k → nI a ≠ nI k := fun k hk h w => h ((nI_eq (by omega) (by omega)).mp w)
  have l236 : ∀ (k fu : Nat), k ≤ x → k < fu → g_gather_236 fu (nI a) (nI x) (nI k - 1) st = some st := by
    intro k
    induction k with
    | zero =>
      intro fu _ h2
      obtain ⟨fu, rfl⟩ : ∃ f, fu = f + 1 := ⟨fu - 1, by omega⟩
      unfold g_gather_236
      rw [if_pos (by decide)]
    | succ k ih =>
      intro fu h1 h2
      obtain ⟨fu, rfl⟩ : ∃ f, fu = f + 1 := ⟨fu - 1, by omega⟩
      have e1 : nI (k + 1) - 1 = nI k := by rw [show (1 : Int32) = nI 1 from rfl, nI_sub (by omega)]; rfl
      rw [e1]
      unfold g_gather_236 g_gather_257 g_gather_279
      rw [if_neg (nI_pos (by omega)), if_neg (show ¬ nI a = 8 from j 8 (by decide) h8), if_neg (show ¬ nI a = 10 from j 10 (by decide) h10), show nI k + -1 = nI k - 1 from (Int32.sub_eq_add_neg _ _).symm]
      exact ih fu (by omega) (by omega)
  have l174 : ∀ (r fu k : Nat), k + r = n → r < fu → g_gather_174 fu (nI a) (nI x) (nI n) (nI k) st = some st := by
    intro r
    induction r with
    | zero =>
      intro fu k h1 h2
      obtain ⟨fu, rfl⟩ : ∃ f, fu = f + 1 := ⟨fu - 1, by omega⟩
      unfold g_gather_174
      rw [if_pos (nI_le (by omega) (by omega))]
      exact l236 x mF (Nat.le_refl _) (by unfold mF; omega)
    | succ r ih =>
      intro fu k h1 h2
      obtain ⟨fu, rfl⟩ : ∃ f, fu = f + 1 := ⟨fu - 1, by omega⟩
      unfold g_gather_174 g_gather_203 g_gather_225
      rw [if_neg (nI_ge (by omega) (by omega)), if_neg (show ¬ nI a = 0 from j 0 (by decide) h0), if_neg (show ¬ nI a = 7 from j 7 (by decide) h7), nI_1]
      exact ih fu (k + 1) (by omega) (by omega)
  unfold g_gather_169
  rw [nI_1]
  exact l174 (n - (x + 1)) mF (x + 1) (by omega) (by unfold mF; omega)
/-- up from parent to parent -/
theorem rw_133 (M0 : md (st0.2.1 0) n d D) (ok : nd_ok mk n D) (hx : x < n) (ha : a = 3 ∨ a = 4 ∨ a = 5) : ∀ (f fu y : Nat) (l : List Nat) (st : mT), y < f → f < fu → y < n → lS st0 st l → l.length + y ≤ 41 → ∃ s, g_gather_133 fu (nI a) (nI x) (nI n) (md_ps d (D y)) st = some s ∧ lS st0 s (l ++ q_anc D (if a = 3 then 1 else f) y) := by
  have hn := M0.1
  have end1 : ∀ (fu : Nat) (l : List Nat) (st : mT), 1 ≤ fu → lS st0 st l → g_gather_133 fu (nI a) (nI x) (nI n) (-1) st = some st := fun fu l st h1 L => by
    obtain ⟨fu, rfl⟩ : ∃ f, fu = f + 1 := ⟨fu - 1, by omega⟩
    unfold g_gather_133
    rw [if_pos (by decide)]
    exact rw_169n M0 ok hx (by omega) (by omega) (by omega) (by omega) (by omega) L
  intro f
  induction f with
  | zero => intro fu y l st h; omega
  | succ f ih =>
    intro fu y l st h1 h2 hy L hl
    obtain ⟨fu, rfl⟩ : ∃ f, fu = f + 1 := ⟨fu - 1, by omega⟩
    cases e : (D y).2.2.1 with
    | none =>
      have ep : md_ps d (D y) = -1 := by unfold md_ps; rw [e]
      have ea : q_anc D (if a = 3 then 1 else f + 1) y = [] := by
        have : ∀ g, q_anc D (g + 1) y = [] := fun g => by unfold q_anc; rw [e]
        split
        · exact this 0
        · exact this f
      rw [ep, ea, List.append_nil]
      exact ⟨st, end1 (fu + 1) l st (by omega) L, L⟩
    | some p =>
      have hp := (ok.2 y hy).2.2.1 p e
      have ep : md_ps d (D y) = nI (d p) := by unfold md_ps; rw [e]
      have M := L.md M0
      have hD := md_D M
      have hdp := (M.2.2.1 p (by omega)).1
      have ea : ∀ g, q_anc D (g + 1) y = p :: q_anc D g p := fun g => by show (match (D y).2.2.1 with | none => [] | some p => p :: q_anc D g p) = _; rw [e]
      obtain ⟨s, a1, a2⟩ := rw_entry L (by omega) p
      have Ms := a2.md M0
      have e0 : g_gather_133 (fu + 1) (nI a) (nI x) (nI n) (nI (d p)) st = (if nI a = 3 then g_gather_133 fu (nI a) (nI x) (nI n) (-1) s else g_gather_133 fu (nI a) (nI x) (nI n) (md_ps d (D p)) s) := by
        conv => lhs; unfold g_gather_133
        rw [if_neg (nI_pos (by omega)), mp_bd (mp_order hD (show p < n by omega) M.2.2.2.1)]
        simp only []
        rw [a1, Option.bind_some]
        unfold g_gather_164
        rw [mp_bd (mp_fpc (md_D Ms) (show p < n by omega)), md_pc Ms (show p < n by omega)]
      rw [ep, e0]
      by_cases q3 : a = 3
      · rw [if_pos (show nI a = 3 by rw [q3]; rfl), if_pos q3, ea 0]
        exact ⟨s, end1 fu _ s (by omega) a2, a2⟩
      · rw [if_neg (show ¬ nI a = 3 from fun w => q3 ((nI_eq (b := 3) (by omega) (by decide)).mp w)), if_neg q3, ea f]
        obtain ⟨s2, b1, b2⟩ := ih fu p (l ++ [p]) s (by omega) (by omega) (by omega) a2 (by rw [len_snoc]; omega)
        rw [if_neg q3, List.append_assoc] at b2
        exact ⟨s2, b1, b2⟩
theorem q5_f {l : List Nat} : l.filter (q5 D 0 x) = l.filter (fun k => decide ((D k).2.2.1 = some x)) ∧ l.filter (q5 D 7 x) = l.filter (fun k => decide ((D k).2.2.1 = (D x).2.2.1)) := by
  refine ⟨List.filter_congr (fun k _ => ?_), List.filter_congr (fun k _ => ?_)⟩
  · unfold q5; simp
  · unfold q5; simp
theorem q5_n {l : List Nat} (h0 : a ≠ 0) (h7 : a ≠ 7) : l.filter (q5 D a x) = [] := by
  rw [List.filter_eq_nil_iff]
  intro k _
  unfold q5
  simp only [decide_eq_true_eq]
  exact fun w => w.elim (fun k => h0 k.1) (fun k => h7 k.1)
theorem q6_n {l : List Nat} (h0 : a ≠ 8) (h7 : a ≠ 10) : l.filter (q6 n D a x) = [] := by
  rw [List.filter_eq_nil_iff]
  intro k _
  unfold q6
  simp only [decide_eq_true_eq]
  exact fun w => w.elim (fun k => h0 k.1) (fun k => h7 k.1)
theorem q6_f {l : List Nat} : l.filter (q6 n D 8 x) = l.filter (fun k => decide ((D k).2.2.1 = (D x).2.2.1)) ∧ l.filter (q6 n D 10 x) = l.filter (fun k => decide (a_end n D k ≤ x)) := by
  refine ⟨List.filter_congr (fun k _ => ?_), List.filter_congr (fun k _ => ?_)⟩
  · unfold q6; simp
  · unfold q6; simp
def oX (x : Option Nat) : Int32 := match x with
  | some x => nI x
  | none => -1
theorem rw_gather (M0 : md (st0.2.1 0) n d D) (ok : nd_ok mk n D) (ha : a ≤ 10) (xo : Option Nat) (hxo : ∀ x, xo = some x → x < n) : ∃ s, g_gather (nI a) (oX xo) st0 = some s ∧ lS st0 s (q_ax n D a xo) := by
  have hn := M0.1
  have L0 : lS st0 (mm_F st0 53 0) [] := ⟨fun k hk => fF_n hk, fF_s, fun _ _ => rfl, fun i hi => absurd hi (by simp), rfl⟩
  have j : ∀ k, k ≤ 10 → (nI a = nI k ↔ a = k) := fun k hk => nI_eq (by omega) (by omega)
  have j0 : nI a = 0 ↔ a = 0 := j 0 (by decide)
  have j1 : nI a = 1 ↔ a = 1 := j 1 (by decide)
  have j2 : nI a = 2 ↔ a = 2 := j 2 (by decide)
  have j3 : nI a = 3 ↔ a = 3 := j 3 (by decide)
  have j4 : nI a = 4 ↔ a = 4 := j 4 (by decide)
  have j5 : nI a = 5 ↔ a = 5 := j 5 (by decide)
  have j6 : nI a = 6 ↔ a = 6 := j 6 (by decide)
  have j9 : nI a = 9 ↔ a = 9 := j 9 (by decide)
  have ec : g_count (mm_F st0 53 0) = some (nI n, mm_F st0 53 0) := mp_cnt (md_D (L0.md M0))
  unfold g_gather
  simp only [mm_lt]
  rw [ec, Option.bind_some]
  simp only []
  cases xo with
  | none =>
    have z : ∀ w0 : Nat, w0 ≤ 40 → ∃ s, g_gather_43 (nI w0) 0 (mm_F st0 53 0) = some s ∧ lS st0 s ([] ++ q_rng 0 w0) := fun w0 hw => by
      unfold g_gather_43
      rw [bind_id]
      exact rw_ents (k := 0) hw (by omega) L0 (by simp; omega)
    rw [if_neg (show ¬ (0 : Int32) ≤ oX none by decide)]
    unfold q_ax
    simp only []
    by_cases q0 : a = 0
    · rw [if_pos (j0.mpr q0), if_pos q0]
      by_cases qn : n = 0
      · rw [if_pos (show nI n ≤ 0 by rw [qn]; decide), if_pos qn]
        unfold g_gather_28
        rw [if_neg (fun w => by have := j1.mp w; omega), if_neg (fun w => by have := j2.mp w; omega)]
        exact z 0 (by omega)
      · rw [if_neg (show ¬ nI n ≤ 0 from nI_ge (a := 0) (by omega) (by omega)), if_neg qn]
        exact z 1 (by omega)
    · rw [if_neg (fun w => q0 (j0.mp w)), if_neg q0]
      unfold g_gather_28 g_gather_38
      by_cases q1 : a = 1
      · rw [if_pos (j1.mpr q1), if_pos (Or.inl q1)]
        exact z n (by omega)
      · rw [if_neg (fun w => q1 (j1.mp w))]
        by_cases q2 : a = 2
        · rw [if_pos (j2.mpr q2), if_pos (Or.inr q2)]
          exact z n (by omega)
        · rw [if_neg (fun w => q2 (j2.mp w)), if_neg (fun w => w.elim q1 q2)]
          exact z 0 (by omega)
  | some x =>
    have hx := hxo x rfl
    have hsp := mp_end_spec (pa := fun k => (D k).2.2.1) hx
    have e1 : a_end n D x = mp_end (fun k => (D k).2.2.1) n x := rfl
    have hanc := q_anc_len ok 50 x hx
    rw [if_pos (show (0 : Int32) ≤ oX (some x) from nI_le (a := 0) (Nat.zero_le _) (by omega))]
    show ∃ s, (if nI a = 2 then g_gather_63 (nI a) (nI x) (nI n) (mm_F st0 53 0) else if nI a = 5 then g_gather_63 (nI a) (nI x) (nI n) (mm_F st0 53 0) else if nI a = 6 then g_gather_63 (nI a) (nI x) (nI n) (mm_F st0 53 0) else g_gather_68 (nI a) (nI x) (nI n) (mm_F st0 53 0)) = some s ∧ _
    -- the end of the road, by axis
    have f106 : ∀ (l : List Nat) (st : mT), lS st0 st l → l.length + (if a = 3 ∨ a = 4 ∨ a = 5 then x else if a = 0 ∨ a = 7 ∨ a = 8 ∨ a = 10 then n - 1 else 0) ≤ 41 → ∃ s, g_gather_106 (nI a) (nI x) (nI n) st = some s ∧ lS st0 s (l ++ (if a = 3 ∨ a = 4 ∨ a = 5 then q_anc D (if a = 3 then 1 else 50) x else qT n D a x)) := fun l st L hl => by
      unfold g_gather_106
      by_cases q : a = 3 ∨ a = 4 ∨ a = 5
      · rw [if_pos q] at hl ⊢
        have e121 : ∃ s, g_gather_121 (nI a) (nI x) (nI n) st = some s ∧ lS st0 s (l ++ q_anc D (if a = 3 then 1 else 50) x) := by
          have M := L.md M0
          unfold g_gather_121
          rw [mp_bd (mp_dc (md_D M) hx)]
          simp only []
          rw [mp_bd (mp_fpc (md_D M) hx), md_pc M hx]
          exact rw_133 M0 ok hx q 50 mF x l st (by omega) (by unfold mF; omega) hx L hl
        rcases q with q | q | q
        · rw [if_pos (j3.mpr q)]; exact e121
        · rw [if_neg (fun w => by have := j3.mp w; omega), if_pos (j4.mpr q)]; exact e121
        · rw [if_neg (fun w => by have := j3.mp w; omega), if_neg (fun w => by have := j4.mp w; omega), if_pos (j5.mpr q)]; exact e121
      · rw [if_neg q] at hl ⊢
        rw [if_neg (fun w => q (Or.inl (j3.mp w))), if_neg (fun w => q (Or.inr (Or.inl (j4.mp w)))), if_neg (fun w => q (Or.inr (Or.inr (j5.mp w))))]
        by_cases q2 : a = 0 ∨ a = 7 ∨ a = 8 ∨ a = 10
        · rw [if_pos q2] at hl
          exact rw_169 M0 ok hx ha L (by omega)
        · rw [qT_nil (by omega) (by omega) (by omega) (by omega), List.append_nil]
          exact ⟨st, rw_169n M0 ok hx ha (by omega) (by omega) (by omega) (by omega) L, L⟩
    have f90n : ∀ st : mT, a ≠ 9 → g_gather_90 (nI a) (nI x) (nI n) st = g_gather_106 (nI a) (nI x) (nI n) st := fun st q9 => by
      unfold g_gather_90
      rw [if_neg (fun w => q9 (j9.mp w))]
    have f68n : ∀ st : mT, a ≠ 1 → a ≠ 2 → g_gather_68 (nI a) (nI x) (nI n) st = g_gather_90 (nI a) (nI x) (nI n) st := fun st q1 q2 => by
      unfold g_gather_68
      rw [if_neg (fun w => q1 (j1.mp w)), if_neg (fun w => q2 (j2.mp w))]
    have f78 : ∀ (l : List Nat) (st : mT), lS st0 st l → l.length + n ≤ 41 + x → (a = 1 ∨ a = 2) → ∃ s, g_gather_78 (nI a) (nI x) (nI n) st = some s ∧ lS st0 s (l ++ q_rng (x + 1) (a_end n D x)) := fun l st L hl q => by
      have M := L.md M0
      unfold g_gather_78
      rw [mp_bd (mp_gend (md_D M) (md_P M ok) hx), nI_1]
      simp only []
      obtain ⟨s, a1, a2⟩ := rw_ents (k := x + 1) (b := a_end n D x) (by omega) (by omega) L (by omega)
      rw [show g_entries (nI (x + 1)) (nI (mp_end (fun k => (D k).2.2.1) n x)) st = _ from a1, Option.bind_some, f90n s (by omega)]
      obtain ⟨s2, b1, b2⟩ := f106 _ s a2 (by rw [List.length_append, q_rng_len, if_neg (by omega), if_neg (by omega)]; omega)
      rw [if_neg (by omega), qT_nil (by omega) (by omega) (by omega) (by omega), List.append_nil] at b2
      exact ⟨s2, b1, b2⟩
    obtain ⟨sx, x1, x2⟩ := rw_entry L0 (by simp) x
    have e63 : g_gather_63 (nI a) (nI x) (nI n) (mm_F st0 53 0) = g_gather_68 (nI a) (nI x) (nI n) sx := by
      unfold g_gather_63
      rw [x1, Option.bind_some]
    rw [List.nil_append] at x2
    unfold q_ax
    simp only []
    by_cases q2 : a = 2
    · rw [if_pos (j2.mpr q2), e63, if_neg (by omega), if_neg (by omega), if_pos q2]
      unfold g_gather_68
      rw [if_neg (fun w => by have := j1.mp w; omega), if_pos (j2.mpr q2)]
      exact f78 [x] sx x2 (by simp; omega) (Or.inr q2)
    rw [if_neg (fun w => q2 (j2.mp w))]
    by_cases q5' : a = 5
    · rw [if_pos (j5.mpr q5'), e63, f68n sx (by omega) (by omega), f90n sx (by omega), if_neg (by omega), if_neg (by omega), if_neg (by omega), if_neg (by omega), if_neg (by omega), if_pos q5']
      obtain ⟨s, b1, b2⟩ := f106 [x] sx x2 (by rw [if_pos (by omega)]; simp; omega)
      rw [if_pos (by omega), if_neg (by omega)] at b2
      exact ⟨s, b1, b2⟩
    rw [if_neg (fun w => q5' (j5.mp w))]
    by_cases q6' : a = 6
    · rw [if_pos (j6.mpr q6'), e63, f68n sx (by omega) (by omega), f90n sx (by omega), if_neg (by omega), if_neg (by omega), if_neg (by omega), if_neg (by omega), if_neg (by omega), if_neg (by omega), if_pos q6']
      obtain ⟨s, b1, b2⟩ := f106 [x] sx x2 (by rw [if_neg (by omega), if_neg (by omega)]; simp)
      rw [if_neg (by omega), qT_nil (by omega) (by omega) (by omega) (by omega), List.append_nil] at b2
      exact ⟨s, b1, b2⟩
    rw [if_neg (fun w => q6' (j6.mp w))]
    by_cases q1 : a = 1
    · rw [if_neg (by omega), if_pos q1]
      unfold g_gather_68
      rw [if_pos (j1.mpr q1)]
      exact f78 [] _ L0 (by simp; omega) (Or.inl q1)
    rw [f68n _ q1 q2]
    by_cases q9 : a = 9
    · have M := L0.md M0
      rw [if_neg (by omega), if_neg (by omega), if_neg (by omega), if_neg (by omega), if_neg (by omega), if_neg (by omega), if_neg (by omega), if_neg (by omega), if_neg (by omega), if_pos q9]
      unfold g_gather_90
      rw [if_pos (j9.mpr q9), mp_bd (mp_gend (md_D M) (md_P M ok) hx)]
      simp only []
      obtain ⟨s, a1, a2⟩ := rw_ents (k := a_end n D x) (b := n) (by omega) (by omega) L0 (by simp; omega)
      rw [show g_entries (nI (mp_end (fun k => (D k).2.2.1) n x)) (nI n) _ = _ from a1, Option.bind_some]
      obtain ⟨s2, b1, b2⟩ := f106 _ s a2 (by rw [List.length_append, q_rng_len, if_neg (by omega), if_neg (by omega)]; simp; omega)
      rw [if_neg (by omega), qT_nil (by omega) (by omega) (by omega) (by omega), List.append_nil] at b2
      exact ⟨s2, b1, b2⟩
    rw [f90n _ q9]
    obtain ⟨s, b1, b2⟩ := f106 [] _ L0 (by split <;> (try split) <;> simp <;> omega)
    refine ⟨s, b1, ?_⟩
    rw [List.nil_append] at b2
    by_cases q3 : a = 3
    · rw [if_neg (by omega), if_neg q1, if_neg q2, if_pos q3]
      rw [if_pos (Or.inl q3), if_pos q3] at b2
      exact b2
    by_cases q4 : a = 4
    · rw [if_neg (by omega), if_neg q1, if_neg q2, if_neg q3, if_pos q4]
      rw [if_pos (by omega), if_neg q3] at b2
      exact b2
    rw [if_neg (by omega)] at b2
    unfold qT at b2
    by_cases q0 : a = 0
    · rw [if_pos q0]
      rw [q6_n (by omega) (by omega), List.append_nil, q0, q5_f.1] at b2
      exact b2
    by_cases q7 : a = 7
    · rw [if_neg q0, if_neg q1, if_neg q2, if_neg q3, if_neg q4, if_neg q5', if_neg q6', if_pos q7]
      rw [q6_n (by omega) (by omega), List.append_nil, q7, q5_f.2] at b2
      exact b2
    rw [q5_n q0 q7, List.nil_append] at b2
    by_cases q8 : a = 8
    · rw [if_neg q0, if_neg q1, if_neg q2, if_neg q3, if_neg q4, if_neg q5', if_neg q6', if_neg q7, if_pos q8]
      rw [q8, q6_f.1] at b2
      exact b2
    · rw [if_neg q0, if_neg q1, if_neg q2, if_neg q3, if_neg q4, if_neg q5', if_neg q6', if_neg q7, if_neg q8, if_neg q9]
      rw [show a = 10 by omega, q6_f.2] at b2
      exact b2
end QS3
