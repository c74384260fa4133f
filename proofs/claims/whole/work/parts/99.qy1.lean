-- each call, on both sides at once
abbrev aS : Type := Nat × Nat × (Nat → nd) × Nat × (Nat → nd) × List Nat × List Int32 × Int32
def cI (dA : Nat → ClassId) (y : Nat) (h : hm_T) (z : hz_T) (a : aS) : Prop := cPIC dA y h z a.1 a.2.1 a.2.2.1 a.2.2.2.1 a.2.2.2.2.1 a.2.2.2.2.2.1 a.2.2.2.2.2.2.1 a.2.2.2.2.2.2.2
def mI (st : mT) (a : aS) : Prop := mPIC st a.1 a.2.1 a.2.2.1 a.2.2.2.1 a.2.2.2.2.1 a.2.2.2.2.2.1 a.2.2.2.2.2.2.1 a.2.2.2.2.2.2.2
def aO (a : aS) : Prop := aX a.1 a.2.1 a.2.2.1 a.2.2.2.1 a.2.2.2.2.1 a.2.2.2.2.2.1 a.2.2.2.2.2.2.1
def bl (a : aS) : Nat := a.2.2.2.2.2.1.length
def bth (dA : Nat → ClassId) (y : Nat) (a : aS) (mc ms : Nat) (wc : (Int32 → hm_T → hz_T → Prop) → Prop) (g : Option (Int32 × mT)) : Prop := ∃ (v : Int32) (a2 : aS) (st2 : mT), (∀ K : Int32 → hm_T → hz_T → Prop, (∀ h1 z1, cI dA y h1 z1 a2 → aO a2 → K v h1 z1) → wc K) ∧ g = some (v, st2) ∧ mI st2 a2 ∧ mc + 40 * bl a2 ≤ 40 * bl a + 100 ∧ ms + 2600 * bl a2 ≤ 2600 * bl a + 4000
section QY1
variable {dA : Nat → ClassId} {h : hm_T} {z : hz_T} {y : Nat} {a : aS} {st : mT}
theorem bt_type (C : cI dA y h z a) (M : mI st a) (ok : aO a) (x : Int32) : bth dA y a 1 142 (fun K => w_Store_type dA y x 1 142 K h z) (g_type x st) := by
  obtain ⟨mk, n, D, m, D2, xs, rs, ch⟩ := a
  have hx : xs.length ≤ 120 := ok.1.2.2.2.1
  have P := pm_type M hx x
  by_cases q : x < 32 ∨ 126 < x ∨ 120 ≤ xs.length
  · exact ⟨0, (mk, n, D, m, D2, xs, rs, ch), st, fun K k => pc_type C (Nat.le_refl _) (Nat.le_refl _) (fun _ => k h z C ok) (fun q9 e h1 h2 h3 => by
      exfalso
      rcases q with q | q | q
      · rw [e] at q; exact absurd (nI_le (a := 32) h1 (by omega)) (Int32.not_le.mpr q)
      · rw [e] at q; exact absurd (nI_le (a := q9) (b := 126) h2 (by decide)) (Int32.not_le.mpr q)
      · exact absurd h3 (Nat.not_lt.mpr q)), P.1 q, M, by show 1 + 40 * xs.length ≤ 40 * xs.length + 100; omega, by show 142 + 2600 * xs.length ≤ 2600 * xs.length + 4000; omega⟩
  · have n1 : ¬ x < 32 := fun w => q (Or.inl w)
    have n2 : ¬ 126 < x := fun w => q (Or.inr (Or.inl w))
    have n3 : xs.length < 120 := by
      rcases Nat.lt_or_ge xs.length 120 with w | w
      · exact w
      · exact absurd (Or.inr (Or.inr w)) q
    have np : ¬ x < 0 := fun w => n1 (Int32.lt_trans w (by decide))
    obtain ⟨e1, e2, e3⟩ := i32_nat np
    generalize x.toNatClampNeg = c at e1 e2 e3
    subst e1
    have b1 : 32 ≤ c := by
      have := Int32.le_iff_toInt_le.mp (Int32.not_lt.mp n1)
      rw [nI_toInt e2, show (32 : Int32).toInt = 32 by decide] at this
      omega
    have b2 : c ≤ 126 := by
      have := Int32.le_iff_toInt_le.mp (Int32.not_lt.mp n2)
      rw [nI_toInt e2, show (126 : Int32).toInt = 126 by decide] at this
      omega
    obtain ⟨st2, p1, p2⟩ := P.2 c rfl b1 b2 n3
    refine ⟨1, (mk, n, D, m, D2, xs ++ [c], rs, ch), st2, fun K k => pc_type C (Nat.le_refl _) (Nat.le_refl _) (fun w => absurd w q) (fun q9 e h1 h2 h3 h4 C4 => ?_), p1, p2, ?_, ?_⟩
    · have : c = q9 := (nI_eq e2 (by omega)).mp e
      subst this
      exact k h4 z C4 (aX.type ok b1 b2 n3)
    · show 1 + 40 * (xs ++ [c]).length ≤ 40 * xs.length + 100
      rw [len_snoc]; omega
    · show 142 + 2600 * (xs ++ [c]).length ≤ 2600 * xs.length + 4000
      rw [len_snoc]; omega
theorem bt_load (C : cI dA y h z a) (M : mI st a) (ok : aO a) : bth dA y a (40 * bl a + 50) (2600 * bl a + 3000) (fun K => w_Store_load dA y (40 * bl a + 50) (2600 * bl a + 3000) K h z) (g_load st) := by
  obtain ⟨mk, n, D, m, D2, xs, rs, ch⟩ := a
  have P := pm_load M ok.1
  have b1 : ∀ l : List Nat, l = [] → (40 * xs.length + 50) + 40 * l.length ≤ 40 * xs.length + 100 := fun l e => by rw [e]; simp
  have b2 : ∀ l : List Nat, l = [] → (2600 * xs.length + 3000) + 2600 * l.length ≤ 2600 * xs.length + 4000 := fun l e => by rw [e]; simp
  cases e : a_load mk xs with
  | inl e9 =>
    obtain ⟨st2, p1, p2⟩ := P.1 e9 e
    exact ⟨_, (mk, n, D, m, D2, [], rs, ch), st2, fun K k => pc_load C ok.1 (Nat.le_refl _) (Nat.le_refl _) (fun e1 h1 z1 w C1 => by rw [e] at w; have w2 := Sum.inl.inj w; subst w2; exact k h1 z1 C1 (aX.nil ok)) (fun w => by rw [e] at w; cases w) (fun W h1 z1 w => by rw [e] at w; cases w), p1, p2, b1 _ rfl, b2 _ rfl⟩
  | inr o =>
    cases o with
    | none =>
      obtain ⟨st2, p1, p2⟩ := P.2.1 e
      exact ⟨_, (mk, n, D, m, D2, [], rs, ch), st2, fun K k => pc_load C ok.1 (Nat.le_refl _) (Nat.le_refl _) (fun e1 h1 z1 w C1 => by rw [e] at w; cases w) (fun w h1 z1 C1 => k h1 z1 C1 (aX.nil ok)) (fun W h1 z1 w => by rw [e] at w; cases w), p1, p2, b1 _ rfl, b2 _ rfl⟩
    | some W =>
      obtain ⟨st2, p1, p2⟩ := P.2.2 W e
      exact ⟨_, (mk + W.length, W.length, nd_ins D 0 mk none W, W.length, nd_ins D 0 mk none W, [], rs, 0), st2, fun K k => pc_load C ok.1 (Nat.le_refl _) (Nat.le_refl _) (fun e1 h1 z1 w C1 => by rw [e] at w; cases w) (fun w => by rw [e] at w; cases w) (fun W1 h1 z1 w C1 => by rw [e] at w; have w2 := Option.some.inj (Sum.inr.inj w); subst w2; exact k h1 z1 C1 (aX.load ok e)), p1, p2, b1 _ rfl, b2 _ rfl⟩
theorem bt_insert (C : cI dA y h z a) (M : mI st a) (ok : aO a) (x wh : Int32) : bth dA y a (40 * bl a + 60) (2600 * bl a + 3600) (fun K => w_Store_insert dA y x wh (40 * bl a + 60) (2600 * bl a + 3600) K h z) (g_insert x wh st) := by
  obtain ⟨mk, n, D, m, D2, xs, rs, ch⟩ := a
  have P := pm_insert M ok.1 ok.2.1.1 ok.2.1.2.1 x wh
  have b1 : ∀ l : List Nat, l = [] → (40 * xs.length + 60) + 40 * l.length ≤ 40 * xs.length + 100 := fun l e => by rw [e]; simp
  have b2 : ∀ l : List Nat, l = [] → (2600 * xs.length + 3600) + 2600 * l.length ≤ 2600 * xs.length + 4000 := fun l e => by rw [e]; simp
  cases e : a_insert mk n D xs x wh with
  | inl v =>
    obtain ⟨st2, p1, p2⟩ := P.1 v e
    exact ⟨_, (mk, n, D, m, D2, [], rs, ch), st2, fun K k => pc_insert C ok.1 ok.2.1.1 (Nat.le_refl _) (Nat.le_refl _) (fun v1 w h1 z1 C1 => by rw [e] at w; have w2 := Sum.inl.inj w; subst w2; exact k h1 z1 C1 (aX.nil ok)) (fun j tx w => by rw [e] at w; cases w) (fun sp pp W w => by rw [e] at w; cases w), p1, p2, b1 _ rfl, b2 _ rfl⟩
  | inr o =>
    cases o with
    | inl q =>
      obtain ⟨j, tx⟩ := q
      obtain ⟨st2, p1, p2⟩ := P.2.1 j tx e
      exact ⟨_, (mk, n, nd_set D j tx, m, D2, [], rs, ch + 1), st2, fun K k => pc_insert C ok.1 ok.2.1.1 (Nat.le_refl _) (Nat.le_refl _) (fun v1 w => by rw [e] at w; cases w) (fun j1 tx1 w hj hch hlen h1 z1 C1 => by rw [e] at w; have w2 := Prod.mk.inj (Sum.inl.inj (Sum.inr.inj w)); obtain ⟨w3, w4⟩ := w2; subst w3; subst w4; exact k h1 z1 C1 (aX.set (aX.nil ok) hlen hch)) (fun sp pp W w => by rw [e] at w; cases w), p1, p2, b1 _ rfl, b2 _ rfl⟩
    | inr q =>
      obtain ⟨sp, pp, W⟩ := q
      obtain ⟨st2, p1, p2⟩ := P.2.2 sp pp W e
      exact ⟨_, (mk + W.length, n + W.length, nd_ins D sp mk (some pp) W, m, D2, [], rs, ch + 1), st2, fun K k => pc_insert C ok.1 ok.2.1.1 (Nat.le_refl _) (Nat.le_refl _) (fun v1 w => by rw [e] at w; cases w) (fun j1 tx1 w => by rw [e] at w; cases w) (fun sp1 pp1 W1 w h1 z1 C1 => by rw [e] at w; have w2 := Prod.mk.inj (Sum.inr.inj (Sum.inr.inj w)); obtain ⟨w3, w4⟩ := w2; have w5 := Prod.mk.inj w4; obtain ⟨w5, w6⟩ := w5; subst w3; subst w5; subst w6; exact k h1 z1 C1 (aX.put M ok e)), p1, p2, b1 _ rfl, b2 _ rfl⟩
theorem bt_query (C : cI dA y h z a) (M : mI st a) (ok : aO a) (x : Int32) : bth dA y a (13 * bl a + 20) (859 * bl a + 700) (fun K => w_Store_query dA y x (13 * bl a + 20) (859 * bl a + 700) K h z) (g_query x st) := by
  obtain ⟨mk, n, D, m, D2, xs, rs, ch⟩ := a
  have P := pm_query M ok.1 x
  have b1 : ∀ l : List Nat, l = [] → (13 * xs.length + 20) + 40 * l.length ≤ 40 * xs.length + 100 := fun l e => by rw [e]; simp; omega
  have b2 : ∀ l : List Nat, l = [] → (859 * xs.length + 700) + 2600 * l.length ≤ 2600 * xs.length + 4000 := fun l e => by rw [e]; simp; omega
  cases e : a_query n D xs x with
  | inl v =>
    obtain ⟨st2, p1, p2⟩ := P.1 v e
    exact ⟨_, (mk, n, D, m, D2, [], rs, ch), st2, fun K k => pc_query C ok (Nat.le_refl _) (Nat.le_refl _) (fun v1 w h1 z1 C1 => by rw [e] at w; have w2 := Sum.inl.inj w; subst w2; exact k h1 z1 C1 (aX.nil ok)) (fun l w => by rw [e] at w; cases w), p1, p2, b1 _ rfl, b2 _ rfl⟩
  | inr l =>
    obtain ⟨st2, p1, p2⟩ := P.2 l e
    exact ⟨_, (mk, n, D, m, D2, [], l, ch), st2, fun K k => pc_query C ok (Nat.le_refl _) (Nat.le_refl _) (fun v1 w => by rw [e] at w; cases w) (fun l1 w h1 z1 C1 => by rw [e] at w; have w2 := Sum.inr.inj w; subst w2; exact k h1 z1 C1 (aX.found (aX.nil ok) (a_query_len ok.1.1 e))), p1, p2, b1 _ rfl, b2 _ rfl⟩
theorem bt_replace (C : cI dA y h z a) (M : mI st a) (ok : aO a) (x : Int32) : bth dA y a 3 288 (fun K => w_Store_replace dA y x 3 288 K h z) (g_replace x st) := by
  obtain ⟨mk, n, D, m, D2, xs, rs, ch⟩ := a
  have hxs := ok.1.2.2.2.2.1
  have P := pm_replace M ok.1.1 ok.1.2.2.2.1 hxs x
  have b1 : ∀ l : List Nat, l = [] → 3 + 40 * l.length ≤ 40 * xs.length + 100 := fun l e => by rw [e, List.length_nil]; omega
  have b2 : ∀ l : List Nat, l = [] → 288 + 2600 * l.length ≤ 2600 * xs.length + 4000 := fun l e => by rw [e, List.length_nil]; omega
  by_cases q : ∃ k, a_at n D x = some k ∧ a_may (D k).2.1 xs = true
  · obtain ⟨k, e, em⟩ := q
    obtain ⟨st2, p1, p2⟩ := P.1 k e em
    have hm : xs.length ≤ 20 := by
      unfold a_may at em
      exact (of_decide_eq_true em).2.1
    exact ⟨1, (mk, n, nd_set D k xs, m, D2, [], rs, ch + 1), st2, fun K k9 => pc_replace C ok.1 (Nat.le_refl _) (Nat.le_refl _) (fun k1 h1 z1 e1 _ C1 => by rw [e] at e1; have w := Option.some.inj e1; subst w; exact k9 h1 z1 C1 (aX.set (aX.nil ok) hm (fun c hc => by have := hxs c hc; omega))) (fun w => by have := w k e; rw [em] at this; cases this), p1, p2, b1 _ rfl, b2 _ rfl⟩
  · have q2 : ∀ k, a_at n D x = some k → a_may (D k).2.1 xs = false := fun k e => by
      cases em : a_may (D k).2.1 xs with
      | false => rfl
      | true => exact absurd ⟨k, e, em⟩ q
    obtain ⟨st2, p1, p2⟩ := P.2 q2
    exact ⟨0, (mk, n, D, m, D2, [], rs, ch), st2, fun K k9 => pc_replace C ok.1 (Nat.le_refl _) (Nat.le_refl _) (fun k1 h1 z1 e1 em C1 => by rw [q2 k1 e1] at em; cases em) (fun _ h1 z1 C1 => k9 h1 z1 C1 (aX.nil ok)), p1, p2, b1 _ rfl, b2 _ rfl⟩
theorem bt_remove (C : cI dA y h z a) (M : mI st a) (ok : aO a) (x : Int32) : bth dA y a 5 572 (fun K => w_Store_remove dA y x 5 572 K h z) (g_remove x st) := by
  obtain ⟨mk, n, D, m, D2, xs, rs, ch⟩ := a
  have P := pm_remove M ok.1.1 ok.1.2.2.2.2.2.2.2.2.1 x
  have b1 : 5 + 40 * xs.length ≤ 40 * xs.length + 100 := by omega
  have b2 : 572 + 2600 * xs.length ≤ 2600 * xs.length + 4000 := by omega
  cases e : a_at n D x with
  | none => exact ⟨_, (mk, n, D, m, D2, xs, rs, ch), st, fun K k => pc_remove C ok.1 (Nat.le_refl _) (Nat.le_refl _) (fun _ => k h z C ok) (fun k1 w => by rw [e] at w; cases w) (fun k1 i w => by rw [e] at w; cases w) (fun k1 i h1 z1 w => by rw [e] at w; cases w) (fun k1 h1 w => by rw [e] at w; cases w), P.1 e, M, b1, b2⟩
  | some k =>
    by_cases hp : (D k).2.2.1 = none
    · exact ⟨_, (mk, n, D, m, D2, xs, rs, ch), st, fun K k9 => pc_remove C ok.1 (Nat.le_refl _) (Nat.le_refl _) (fun w => by rw [e] at w; cases w) (fun _ _ _ => k9 h z C ok) (fun k1 i w wp => by rw [e] at w; cases w; exact absurd hp wp) (fun k1 i h1 z1 w wp => by rw [e] at w; cases w; exact absurd hp wp) (fun k1 h1 w wp => by rw [e] at w; cases w; exact absurd hp wp), P.2.1 k e hp, M, b1, b2⟩
    · have aR := aX.remove ok e hp
      cases ej : a_join n D k with
      | none =>
        obtain ⟨st2, p1, p2⟩ := P.2.2.2.2 k e hp ej
        exact ⟨_, (mk, n - (a_end n D k - k), nd_cut D k (a_end n D k), m, D2, xs, rs, ch + 1), st2, fun K k9 => pc_remove C ok.1 (Nat.le_refl _) (Nat.le_refl _) (fun w => by rw [e] at w; cases w) (fun k1 w wp => by rw [e] at w; cases w; exact absurd wp hp) (fun k1 i w wp wj => by rw [e] at w; cases w; rw [ej] at wj; cases wj) (fun k1 i h1 z1 w wp wj => by rw [e] at w; cases w; rw [ej] at wj; cases wj) (fun k1 h1 w wp wj C1 => by rw [e] at w; cases w; exact k9 h1 z C1 (aR.1 ej)), p1, p2, b1, b2⟩
      | some i =>
        by_cases hl : (D i).2.2.2.2.2.length + (D (a_end n D k)).2.2.2.2.2.length ≤ 20
        · obtain ⟨st2, p1, p2⟩ := P.2.2.2.1 k i e hp ej hl
          exact ⟨_, (mk, n - (a_end n D k + 1 - k), nd_cut (nd_set D i ((D i).2.2.2.2.2 ++ (D (a_end n D k)).2.2.2.2.2)) k (a_end n D k + 1), m, D2, xs, rs, ch + 1), st2, fun K k9 => pc_remove C ok.1 (Nat.le_refl _) (Nat.le_refl _) (fun w => by rw [e] at w; cases w) (fun k1 w wp => by rw [e] at w; cases w; exact absurd wp hp) (fun k1 i1 w wp wj wl => by rw [e] at w; cases w; rw [ej] at wj; cases wj; exact absurd wl (Nat.not_lt.mpr hl)) (fun k1 i1 h1 z1 w wp wj wl C1 => by rw [e] at w; cases w; rw [ej] at wj; cases wj; exact k9 h1 z1 C1 (aR.2 i ej hl)) (fun k1 h1 w wp wj => by rw [e] at w; cases w; rw [ej] at wj; cases wj), p1, p2, b1, b2⟩
        · exact ⟨_, (mk, n, D, m, D2, xs, rs, ch), st, fun K k9 => pc_remove C ok.1 (Nat.le_refl _) (Nat.le_refl _) (fun w => by rw [e] at w; cases w) (fun k1 w wp => by rw [e] at w; cases w; exact absurd wp hp) (fun k1 i1 w wp wj wl => k9 h z C ok) (fun k1 i1 h1 z1 w wp wj wl => by rw [e] at w; cases w; rw [ej] at wj; cases wj; exact absurd wl hl) (fun k1 h1 w wp wj => by rw [e] at w; cases w; rw [ej] at wj; cases wj), P.2.2.1 k i e hp ej (Nat.lt_of_not_le hl), M, b1, b2⟩
theorem b_same (a : aS) : 0 + 40 * bl a ≤ 40 * bl a + 100 ∧ 0 + 2600 * bl a ≤ 2600 * bl a + 4000 := by omega
theorem bt_result (C : cI dA y h z a) (M : mI st a) (ok : aO a) (x : Int32) : bth dA y a 0 0 (fun K => w_Store_result dA y x K h z) (g_result x st) := ⟨_, a, st, fun K k => pc_result C ok.1 (k h z C ok), pm_result M ok.1.2.2.2.2.2.1 x, M, b_same a⟩
theorem bt_commit (C : cI dA y h z a) (M : mI st a) (ok : aO a) : bth dA y a 0 0 (fun K => w_Store_commit dA y K h z) (g_commit st) := by
  obtain ⟨mk, n, D, m, D2, xs, rs, ch⟩ := a
  obtain ⟨st2, p1, p2⟩ := pm_commit M ok.1.1
  exact ⟨_, (mk, n, D, n, D, xs, rs, 0), st2, fun K k => pc_commit C (fun h1 C1 => k h1 z C1 (aX.commit ok)), p1, p2, b_same (mk, n, D, m, D2, xs, rs, ch)⟩
theorem bt_crash (C : cI dA y h z a) (M : mI st a) (ok : aO a) : bth dA y a 1 142 (fun K => w_Store_crash dA y 1 142 K h z) (g_crash st) := by
  obtain ⟨mk, n, D, m, D2, xs, rs, ch⟩ := a
  obtain ⟨st2, p1, p2⟩ := pm_crash M ok.1.2.1
  have b1 : ∀ l : List Nat, l = [] → 1 + 40 * l.length ≤ 40 * xs.length + 100 := fun l e => by rw [e, List.length_nil]; omega
  have b2 : ∀ l : List Nat, l = [] → 142 + 2600 * l.length ≤ 2600 * xs.length + 4000 := fun l e => by rw [e, List.length_nil]; omega
  exact ⟨_, (mk, m, D2, m, D2, [], rs, 0), st2, fun K k => pc_crash C ok.1 (Nat.le_refl _) (Nat.le_refl _) (fun h1 C1 => k h1 z C1 (aX.crash ok)), p1, p2, b1 _ rfl, b2 _ rfl⟩
theorem bt_kind (C : cI dA y h z a) (M : mI st a) (ok : aO a) (x : Int32) : bth dA y a 0 0 (fun K => w_Store_kind dA y x K h z) (g_kind x st) := ⟨_, a, st, fun K k => pc_kind C ok.1 (k h z C ok), pm_kind M x, M, b_same a⟩
theorem bt_node (C : cI dA y h z a) (M : mI st a) (ok : aO a) (x x2 : Int32) : bth dA y a 0 0 (fun K => w_Store_node dA y x x2 K h z) (g_node x x2 st) := ⟨_, a, st, fun K k => pc_node C ok.1 (k h z C ok), pm_node M ok.1.1 x x2, M, b_same a⟩
theorem bt_letter (C : cI dA y h z a) (M : mI st a) (ok : aO a) (x x2 : Int32) : bth dA y a 0 0 (fun K => w_Store_letter dA y x x2 K h z) (g_letter x x2 st) := ⟨_, a, st, fun K k => pc_letter C ok.1 (k h z C ok), pm_letter M ok.1.1 x x2, M, b_same a⟩
theorem bt_label (C : cI dA y h z a) (M : mI st a) (ok : aO a) (x x2 : Int32) : bth dA y a 0 0 (fun K => w_Store_label dA y x x2 K h z) (g_label x x2 st) := ⟨_, a, st, fun K k => pc_label C ok.1 (k h z C ok), pm_label M ok.1.1 x x2, M, b_same a⟩
theorem bt_root (C : cI dA y h z a) (M : mI st a) (ok : aO a) : bth dA y a 0 0 (fun K => w_Store_root dA y K h z) (g_root st) := ⟨_, a, st, fun K k => pc_root C (k h z C ok), pm_root M, M, b_same a⟩
theorem bt_nodes (C : cI dA y h z a) (M : mI st a) (ok : aO a) : bth dA y a 0 0 (fun K => w_Store_nodes dA y K h z) (g_nodes st) := ⟨_, a, st, fun K k => pc_nodes C (k h z C ok), pm_nodes M, M, b_same a⟩
theorem b_1 (a : aS) : 1 + 40 * bl a ≤ 40 * bl a + 100 ∧ 3 + 2600 * bl a ≤ 2600 * bl a + 4000 := by omega
theorem bt_length (C : cI dA y h z a) (M : mI st a) (ok : aO a) : bth dA y a 1 3 (fun K => w_Store_length dA y 1 3 K h z) (g_length st) := by
  obtain ⟨st2, p1, p2⟩ := pm_length M ok.1.1 ok.1.2.2.2.2.2.2.2.2.1
  exact ⟨_, a, st2, fun K k => pc_length C ok.1 (Nat.le_refl _) (Nat.le_refl _) (fun h1 C1 => k h1 z C1 ok), p1, p2, b_1 a⟩
theorem bt_written (C : cI dA y h z a) (M : mI st a) (ok : aO a) (x : Int32) : bth dA y a 1 3 (fun K => w_Store_written dA y x 1 3 K h z) (g_written x st) := by
  obtain ⟨st2, p1, p2⟩ := pm_written M ok.1.1 ok.1.2.2.2.2.2.2.2.2.1 x
  exact ⟨_, a, st2, fun K k => pc_written C ok.1 (Nat.le_refl _) (Nat.le_refl _) (fun h1 C1 => k h1 z C1 ok), p1, p2, b_1 a⟩
end QY1
