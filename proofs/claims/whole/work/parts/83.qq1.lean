-- paths: what they are, and how they are read
def qPr : Nat → Type
  | 0 => Unit
  | n + 1 => Bool × Nat × Nat × List Nat × List Nat × Bool × List (Nat × Nat × List Nat × List (qPr n))
abbrev qSt (n : Nat) : Type := Nat × Nat × List Nat × List (qPr n)
abbrev qPt (n : Nat) : Type := Bool × List (qSt n)
/-- the axis that a sign names; 0: none -/
def q_axs (c : Nat) : Nat := if c = 68 then 1 else if c = 69 then 2 else if c = 80 then 3 else if c = 65 then 4 else if c = 66 then 5 else if c = 83 then 6 else if c = 78 then 7 else if c = 76 then 8 else if c = 70 then 9 else if c = 82 then 10 else 0
def q_sgn (c : Nat) : Nat := if c = 42 then 1 else if c = 35 then 2 else if c = 37 then 3 else if c = 46 then 4 else 0
/-- the place of the next ' or the text's end -/
def q_quo (xs : List Nat) (p : Nat) : Nat := match mp_fst (fun q => decide (xs.getD q 0 = 39)) (xs.length - p) p with
  | some q => q
  | none => xs.length
def q_str (xs : List Nat) (p : Nat) : Nat ⊕ (Nat × List Nat) := if xs.getD p 0 ≠ 39 then .inl p else if xs.length ≤ q_quo xs (p + 1) then .inl xs.length else .inr (q_quo xs (p + 1) + 1, (xs.drop (p + 1)).take (q_quo xs (p + 1) - (p + 1)))
def q_bng (xs : List Nat) : Nat → Nat → Bool → Nat × Bool
  | 0, p, b => (p, b)
  | f + 1, p, b => if xs.getD p 0 = 33 then q_bng xs f (p + 1) (!b) else (p, b)
def a_dig (c : Nat) : Bool := decide (48 ≤ c ∧ c ≤ 57)
/-- the predicates from p on -/
def q_prs {α : Type} (xs : List Nat) (PR : Nat → Nat ⊕ (Nat × α)) (can : Bool) : Nat → Nat → List α → Nat ⊕ (Nat × List α)
  | 0, p, _ => .inl p
  | f + 1, p, acc => if xs.getD p 0 = 91 then (if can = false then .inl p else match PR (p + 1) with
    | .inl e => .inl e
    | .inr (q, pr) => if xs.getD q 0 = 93 then q_prs xs PR can f (q + 1) (acc ++ [pr]) else .inl q) else .inr (p, acc)
def q_hd (xs : List Nat) (p : Nat) : Nat := if q_axs (xs.getD p 0) = 0 then p else p + 1
/-- the step from p on -/
def q_step {α : Type} (xs : List Nat) (PR : Nat → Nat ⊕ (Nat × α)) (can : Bool) (p : Nat) : Nat ⊕ (Nat × (Nat × Nat × List Nat × List α)) := if a_let xs (q_hd xs p) = 0 ∧ q_sgn (xs.getD (q_hd xs p) 0) = 0 then .inl (q_hd xs p) else match q_prs xs PR can 130 (q_hd xs p + (if a_let xs (q_hd xs p) = 0 then 1 else a_let xs (q_hd xs p))) [] with
  | .inl e => .inl e
  | .inr (q, l) => .inr (q, (q_axs (xs.getD p 0), (if a_let xs (q_hd xs p) = 0 then q_sgn (xs.getD (q_hd xs p) 0) else 0), (xs.drop (q_hd xs p)).take (a_let xs (q_hd xs p)), l))
def q_sts {α : Type} (xs : List Nat) (PR : Nat → Nat ⊕ (Nat × α)) (can : Bool) : Nat → Nat → List (Nat × Nat × List Nat × List α) → Nat ⊕ (Nat × List (Nat × Nat × List Nat × List α))
  | 0, p, _ => .inl p
  | f + 1, p, acc => match q_step xs PR can p with
    | .inl e => .inl e
    | .inr (q, s) => if xs.getD q 0 = 47 then q_sts xs PR can f (q + 1) (acc ++ [s]) else .inr (q, acc ++ [s])
def q_pth {α : Type} (xs : List Nat) (PR : Nat → Nat ⊕ (Nat × α)) (can : Bool) (p : Nat) : Nat ⊕ (Nat × (Bool × List (Nat × Nat × List Nat × List α))) := match q_sts xs PR can 130 (if xs.getD p 0 = 47 then p + 1 else p) [] with
  | .inl e => .inl e
  | .inr (q, l) => .inr (q, (decide (xs.getD p 0 = 47), l))
def q_prd {n : Nat} (xs : List Nat) (PT : Nat → Nat ⊕ (Nat × qPt n)) (p0 : Nat) : Nat ⊕ (Nat × qPr (n + 1)) :=
  let p := (q_bng xs 130 p0 false).1
  let neg := (q_bng xs 130 p0 false).2
  if a_dig (xs.getD p 0) = true then (if a_dig (xs.getD (p + 1) 0) = true then .inr (p + 2, (neg, 0, 10 * (xs.getD p 0 - 48) + (xs.getD (p + 1) 0 - 48), [], [], false, [])) else .inr (p + 1, (neg, 0, xs.getD p 0 - 48, [], [], false, [])))
  else if xs.getD p 0 = 36 then .inr (p + 1, (neg, 1, 0, [], [], false, []))
  else if xs.getD p 0 = 64 then (if a_let xs (p + 1) = 0 then .inl (p + 1) else if xs.getD (p + 1 + a_let xs (p + 1)) 0 = 61 then (match q_str xs (p + 1 + a_let xs (p + 1) + 1) with
      | .inl e => .inl e
      | .inr (q, s) => .inr (q, (neg, 3, 0, (xs.drop (p + 1)).take (a_let xs (p + 1)), s, false, []))) else .inr (p + 1 + a_let xs (p + 1), (neg, 2, 0, (xs.drop (p + 1)).take (a_let xs (p + 1)), [], false, [])))
  else match PT p with
    | .inl e => .inl e
    | .inr (q, pt) => if xs.getD q 0 = 61 ∨ xs.getD q 0 = 126 then (match q_str xs (q + 1) with
      | .inl e => .inl e
      | .inr (q2, s) => .inr (q2, (neg, (if xs.getD q 0 = 61 then 5 else 6), 0, [], s, pt.1, pt.2))) else .inr (q, (neg, 4, 0, [], [], pt.1, pt.2))
def q_T (xs : List Nat) : (N : Nat) → Nat → Nat ⊕ (Nat × qPt N)
  | 0, p => q_pth xs (fun _ => .inl 0) false p
  | N + 1, p => q_pth xs (q_prd xs (q_T xs N)) true p
def q_top (xs : List Nat) : Nat ⊕ qPt 3 := match q_T xs 3 0 with
  | .inl e => .inl e
  | .inr (q, pt) => if q = xs.length then .inr pt else .inl q
-- paths in the reference: what stands in its arrays
abbrev aT : Type := Nat → Nat → Int32
def sm {α : Type} (c : α → Nat × Nat) : List α → Nat × Nat
  | [] => (0, 0)
  | x :: l => ((c x).1 + (sm c l).1, (c x).2 + (sm c l).2)
theorem sm_snoc {α : Type} {c : α → Nat × Nat} : ∀ (l : List α) (x : α), sm c (l ++ [x]) = ((sm c l).1 + (c x).1, (sm c l).2 + (c x).2) := by
  intro l
  induction l with
  | nil => intro x; simp [sm]
  | cons y l ih =>
    intro x
    show ((c y).1 + (sm c (l ++ [x])).1, (c y).2 + (sm c (l ++ [x])).2) = ((c y).1 + (sm c l).1 + (c x).1, (c y).2 + (sm c l).2 + (c x).2)
    rw [ih, Nat.add_assoc, Nat.add_assoc]
def nxt {α : Type} (l : List α) (nx v : Int32) : Int32 := match l with
  | [] => nx
  | _ :: _ => v
theorem nxt_snoc {α : Type} {l : List α} {x : α} {nx v : Int32} : nxt (l ++ [x]) nx v = v := by cases l <;> rfl
/-- a chain: entries by R, each with the next one's number in array ar; at index j of the two bases -/
def rCh {α : Type} (R : Nat → Nat → α → Prop) (c : α → Nat × Nat) (G : aT) (ar : Nat) (j : Nat × Nat → Nat) (nx : Int32) : Nat → Nat → List α → Prop
  | _, _, [] => True
  | bs, bp, x :: l => R bs bp x ∧ G ar (j (bs, bp)) = nxt l nx (nI (j (bs + (c x).1, bp + (c x).2))) ∧ rCh R c G ar j nx (bs + (c x).1) (bp + (c x).2) l
theorem rCh_snoc {α : Type} {R : Nat → Nat → α → Prop} {c : α → Nat × Nat} {G : aT} {ar : Nat} {j : Nat × Nat → Nat} {nx : Int32} : ∀ (l : List α) (x : α) (bs bp : Nat), rCh R c G ar j nx bs bp (l ++ [x]) ↔ rCh R c G ar j (nI (j (bs + (sm c l).1, bp + (sm c l).2))) bs bp l ∧ R (bs + (sm c l).1) (bp + (sm c l).2) x ∧ G ar (j (bs + (sm c l).1, bp + (sm c l).2)) = nx := by
  intro l
  induction l with
  | nil =>
    intro x bs bp
    exact ⟨fun h => ⟨trivial, h.1, h.2.1⟩, fun h => ⟨h.2.1, h.2.2, trivial⟩⟩
  | cons y l ih =>
    intro x bs bp
    have i := ih x (bs + (c y).1) (bp + (c y).2)
    have e1 : bs + (c y).1 + (sm c l).1 = bs + (sm c (y :: l)).1 := by show _ = bs + ((c y).1 + (sm c l).1); omega
    have e2 : bp + (c y).2 + (sm c l).2 = bp + (sm c (y :: l)).2 := by show _ = bp + ((c y).2 + (sm c l).2); omega
    rw [e1, e2] at i
    constructor
    · intro h
      obtain ⟨h1, h2, h3⟩ := h
      obtain ⟨k1, k2, k3⟩ := i.mp h3
      refine ⟨⟨h1, ?_, k1⟩, k2, k3⟩
      have h2' : G ar (j (bs, bp)) = nxt (l ++ [x]) nx (nI (j (bs + (c y).1, bp + (c y).2))) := h2
      rw [nxt_snoc] at h2'
      rw [h2']
      cases l with
      | nil => rfl
      | cons z l => rfl
    · intro h
      obtain ⟨⟨h1, h2, h3⟩, k2, k3⟩ := h
      refine ⟨h1, ?_, i.mpr ⟨h3, k2, k3⟩⟩
      show G ar (j (bs, bp)) = nxt (l ++ [x]) nx (nI (j (bs + (c y).1, bp + (c y).2)))
      rw [nxt_snoc, h2]
      cases l with
      | nil => rfl
      | cons z l => rfl
def j1 (b : Nat × Nat) : Nat := b.1
def j2 (b : Nat × Nat) : Nat := b.2
/-- G2 is like G at steps from s0 below s1, at predicates from p0 below p1 -/
def agS (G G2 : aT) (s0 s1 : Nat) : Prop := ∀ a, 25 ≤ a → a ≤ 30 → ∀ i, s0 ≤ i → i < s1 → G2 a i = G a i
def agP (G G2 : aT) (p0 p1 : Nat) : Prop := ∀ a, 32 ≤ a → a ≤ 41 → ∀ i, p0 ≤ i → i < p1 → G2 a i = G a i
theorem agS.sub {G G2 : aT} {s0 s1 t0 t1 : Nat} (h : agS G G2 s0 s1) (h0 : s0 ≤ t0) (h1 : t1 ≤ s1) : agS G G2 t0 t1 := fun a a1 a2 i i1 i2 => h a a1 a2 i (by omega) (by omega)
theorem agP.sub {G G2 : aT} {s0 s1 t0 t1 : Nat} (h : agP G G2 s0 s1) (h0 : s0 ≤ t0) (h1 : t1 ≤ s1) : agP G G2 t0 t1 := fun a a1 a2 i i1 i2 => h a a1 a2 i (by omega) (by omega)
/-- a stretch of the text -/
def rTx (xs : List Nat) (v w : Int32) (t : List Nat) : Prop := ∃ fr, v = nI fr ∧ w = nI t.length ∧ fr + t.length ≤ xs.length ∧ t = (xs.drop fr).take t.length
def cst {α : Type} (c : α → Nat × Nat) (s : Nat × Nat × List Nat × List α) : Nat × Nat := (1 + (sm c s.2.2.2).1, (sm c s.2.2.2).2)
def rS1 {α : Type} (R : Nat → Nat → α → Prop) (c : α → Nat × Nat) (xs : List Nat) (G : aT) (bs bp : Nat) (s : Nat × Nat × List Nat × List α) : Prop := G 25 bs = nI s.1 ∧ G 26 bs = nI s.2.1 ∧ rTx xs (G 27 bs) (G 28 bs) s.2.2.1 ∧ G 29 bs = nxt s.2.2.2 (-1) (nI bp) ∧ rCh R c G 39 j2 (-1) (bs + 1) bp s.2.2.2 ∧ s.1 ≤ 10 ∧ s.2.1 ≤ 4
def qc : (N : Nat) → qPr N → Nat × Nat
  | 0, _ => (0, 1)
  | N + 1, pr => ((sm (cst (qc N)) pr.2.2.2.2.2.2).1, 1 + (sm (cst (qc N)) pr.2.2.2.2.2.2).2)
def bI (b : Bool) : Int32 := if b then 1 else 0
def rP1 (xs : List Nat) (G : aT) : (N : Nat) → Nat → Nat → qPr N → Prop
  | 0, _, _, _ => False
  | N + 1, bs, bp, pr => G 40 bp = bI pr.1 ∧ G 32 bp = nI pr.2.1 ∧ pr.2.1 < 7 ∧ (pr.2.1 = 0 → G 33 bp = nI pr.2.2.1 ∧ pr.2.2.1 < 100) ∧ (pr.2.1 = 2 ∨ pr.2.1 = 3 → rTx xs (G 34 bp) (G 35 bp) pr.2.2.2.1) ∧ (pr.2.1 = 3 ∨ 5 ≤ pr.2.1 → rTx xs (G 36 bp) (G 37 bp) pr.2.2.2.2.1) ∧ (pr.2.1 < 4 → pr.2.2.2.2.2.2 = []) ∧ (4 ≤ pr.2.1 → G 41 bp = bI pr.2.2.2.2.2.1 ∧ G 38 bp = nI bs ∧ pr.2.2.2.2.2.2 ≠ [] ∧ rCh (rS1 (rP1 xs G N) (qc N) xs G) (cst (qc N)) G 30 j1 (-1) bs (bp + 1) pr.2.2.2.2.2.2)
/-- how an entry's truth hangs on the arrays -/
def frP {α : Type} (R : aT → Nat → Nat → α → Prop) (c : α → Nat × Nat) : Prop := ∀ (x : α), 1 ≤ (c x).2 ∧ ∀ (G G2 : aT) (bs bp : Nat), R G bs bp x → agS G G2 bs (bs + (c x).1) → agP G G2 (bp + 1) (bp + (c x).2) → (∀ a, 32 ≤ a → a ≤ 41 → a ≠ 39 → G2 a bp = G a bp) → R G2 bs bp x
def frS {α : Type} (R : aT → Nat → Nat → α → Prop) (c : α → Nat × Nat) : Prop := ∀ (x : α), 1 ≤ (c x).1 ∧ ∀ (G G2 : aT) (bs bp : Nat), R G bs bp x → agS G G2 (bs + 1) (bs + (c x).1) → agP G G2 bp (bp + (c x).2) → (∀ a, 25 ≤ a → a ≤ 29 → G2 a bs = G a bs) → R G2 bs bp x
theorem rCh_P {α : Type} {R : aT → Nat → Nat → α → Prop} {c : α → Nat × Nat} (h : frP R c) : ∀ (l : List α) (G G2 : aT) (nx : Int32) (bs bp : Nat), rCh (R G) c G 39 j2 nx bs bp l → agS G G2 bs (bs + (sm c l).1) → agP G G2 bp (bp + (sm c l).2) → rCh (R G2) c G2 39 j2 nx bs bp l := by
  intro l
  induction l with
  | nil => intro G G2 nx bs bp _ _ _; trivial
  | cons x l ih =>
    intro G G2 nx bs bp r a1 a2
    have hc := (h x).1
    have e1 : (sm c (x :: l)).1 = (c x).1 + (sm c l).1 := rfl
    have e2 : (sm c (x :: l)).2 = (c x).2 + (sm c l).2 := rfl
    refine ⟨(h x).2 G G2 bs bp r.1 (a1.sub (by omega) (by omega)) (a2.sub (by omega) (by omega)) (fun a b1 b2 _ => a2 a b1 b2 bp (by omega) (by omega)), ?_, ih G G2 nx _ _ r.2.2 (a1.sub (by omega) (by omega)) (a2.sub (by omega) (by omega))⟩
    have r2 := r.2.1
    rw [show j2 (bs, bp) = bp from rfl] at r2 ⊢
    rw [a2 39 (by omega) (by omega) bp (by omega) (by omega)]
    exact r2
theorem rCh_S {α : Type} {R : aT → Nat → Nat → α → Prop} {c : α → Nat × Nat} (h : frS R c) : ∀ (l : List α) (G G2 : aT) (nx : Int32) (bs bp : Nat), rCh (R G) c G 30 j1 nx bs bp l → agS G G2 bs (bs + (sm c l).1) → agP G G2 bp (bp + (sm c l).2) → rCh (R G2) c G2 30 j1 nx bs bp l := by
  intro l
  induction l with
  | nil => intro G G2 nx bs bp _ _ _; trivial
  | cons x l ih =>
    intro G G2 nx bs bp r a1 a2
    have hc := (h x).1
    have e1 : (sm c (x :: l)).1 = (c x).1 + (sm c l).1 := rfl
    have e2 : (sm c (x :: l)).2 = (c x).2 + (sm c l).2 := rfl
    refine ⟨(h x).2 G G2 bs bp r.1 (a1.sub (by omega) (by omega)) (a2.sub (by omega) (by omega)) (fun a b1 b2 => a1 a b1 (by omega) bs (by omega) (by omega)), ?_, ih G G2 nx _ _ r.2.2 (a1.sub (by omega) (by omega)) (a2.sub (by omega) (by omega))⟩
    have r2 := r.2.1
    rw [show j1 (bs, bp) = bs from rfl] at r2 ⊢
    rw [a1 30 (by omega) (by omega) bs (by omega) (by omega)]
    exact r2
theorem frS_of {α : Type} {R : aT → Nat → Nat → α → Prop} {c : α → Nat × Nat} {xs : List Nat} (h : frP R c) : frS (fun G => rS1 (R G) c xs G) (cst c) := by
  intro s
  refine ⟨by unfold cst; simp, fun G G2 bs bp r a1 a2 a3 => ?_⟩
  obtain ⟨r1, r2, r3, r4, r5, r6⟩ := r
  refine ⟨by rw [a3 25 (by omega) (by omega)]; exact r1, by rw [a3 26 (by omega) (by omega)]; exact r2, by rw [a3 27 (by omega) (by omega), a3 28 (by omega) (by omega)]; exact r3, by rw [a3 29 (by omega) (by omega)]; exact r4, rCh_P h _ G G2 (-1) _ _ r5 ?_ a2, r6⟩
  unfold cst at a1
  rw [← Nat.add_assoc] at a1
  exact a1
theorem frP_of {xs : List Nat} : ∀ N : Nat, frP (fun G => rP1 xs G N) (qc N) := by
  intro N
  induction N with
  | zero => intro x; exact ⟨Nat.le_refl _, fun G G2 bs bp r => r.elim⟩
  | succ N ih =>
    intro x
    refine ⟨by show 1 ≤ 1 + _; omega, fun G G2 bs bp r a1 a2 a3 => ?_⟩
    obtain ⟨r1, r2, r3, r4, r5, r6, r7, r8⟩ := r
    refine ⟨by rw [a3 40 (by omega) (by omega) (by omega)]; exact r1, by rw [a3 32 (by omega) (by omega) (by omega)]; exact r2, r3, fun w => by rw [a3 33 (by omega) (by omega) (by omega)]; exact r4 w, fun w => by rw [a3 34 (by omega) (by omega) (by omega), a3 35 (by omega) (by omega) (by omega)]; exact r5 w, fun w => by rw [a3 36 (by omega) (by omega) (by omega), a3 37 (by omega) (by omega) (by omega)]; exact r6 w, r7, fun w => ?_⟩
    obtain ⟨q1, q2, q3, q4⟩ := r8 w
    refine ⟨by rw [a3 41 (by omega) (by omega) (by omega)]; exact q1, by rw [a3 38 (by omega) (by omega) (by omega)]; exact q2, q3, rCh_S (R := fun G => rS1 (rP1 xs G N) (qc N) xs G) (frS_of ih) _ G G2 (-1) _ _ q4 a1 (a2.sub (Nat.le_refl _) ?_)⟩
    show bp + 1 + _ ≤ bp + (1 + _)
    omega
-- paths in the reference: small steps of reading
def qfld (k : Nat) : Prop := k = 8 ∨ k = 9 ∨ k = 24 ∨ k = 31 ∨ k = 43 ∨ k = 45 ∨ k = 46 ∨ k = 47 ∨ k = 48 ∨ k = 49
def qarr (a : Nat) : Prop := (25 ≤ a ∧ a ≤ 30) ∨ (32 ≤ a ∧ a ≤ 41) ∨ a = 44 ∨ (50 ≤ a ∧ a ≤ 52)
def qFr (st0 st : mT) : Prop := (∀ k, ¬ qfld k → st.1 k = st0.1 k) ∧ (∀ a, ¬ qarr a → st.2.1 a = st0.2.1 a) ∧ st.2.2 = st0.2.2
theorem qFr.refl {st : mT} : qFr st st := ⟨fun _ _ => rfl, fun _ _ => rfl, rfl⟩
theorem qFr.trans {a b c : mT} (h : qFr a b) (g : qFr b c) : qFr a c := ⟨fun k hk => (g.1 k hk).trans (h.1 k hk), fun k hk => (g.2.1 k hk).trans (h.2.1 k hk), g.2.2.trans h.2.2⟩
theorem qFr.F {st0 st : mT} {k : Nat} {v : Int32} (h : qFr st0 st) (hk : qfld k) : qFr st0 (mm_F st k v) := ⟨fun j hj => by rw [fF_n (fun w => hj (by rw [w]; exact hk))]; exact h.1 j hj, h.2.1, h.2.2⟩
theorem qFr.G {st0 st : mT} {a i : Nat} {v : Int32} (h : qFr st0 st) (ha : qarr a) : qFr st0 (mm_G st a i v) := ⟨h.1, fun b hb => by rw [fG_n (fun w => hb (by rw [w]; exact ha))]; exact h.2.1 b hb, h.2.2⟩
theorem qFr.buf {st0 st : mT} {xs : List Nat} (h : qFr st0 st) (b : md_buf st0 xs) : md_buf st xs := by
  obtain ⟨b1, b2, b3⟩ := b
  refine ⟨by rw [h.1 7 (fun w => by unfold qfld at w; omega)]; exact b1, ?_, b3⟩
  rw [h.2.1 6 (fun w => by unfold qarr at w; omega)]
  exact b2
/-- the machine that reads a path -/
def qM (st0 st : mT) (p lv nest ns np ne sta : Nat) : Prop := qFr st0 st ∧ st.1 8 = nI p ∧ st.1 9 = -1 ∧ st.1 24 = nI ns ∧ st.1 31 = nI np ∧ st.1 43 = nI ne ∧ st.1 45 = nI lv ∧ st.1 46 = nI nest ∧ st.1 47 = nI sta
theorem fG_c {st : mT} {a b i j : Nat} {v : Int32} (h : ¬ (b = a ∧ j = i)) : (mm_G st a i v).2.1 b j = st.2.1 b j := by
  by_cases q : b = a
  · subst q
    exact fG_i (fun w => h ⟨rfl, w⟩)
  · rw [fG_n q]
section QQ3
variable {st0 st : mT} {xs : List Nat}
theorem rq_axs {c : Nat} (hc : c < 128) : g_axisOf (nI c) st = some (nI (q_axs c), st) := by
  have i : ∀ k, k < 128 → (nI c = nI k) = (c = k) := fun k hk => propext (nI_eq (by omega) (by omega))
  have h68 : (nI c = 68) = (c = 68) := i 68 (by decide)
  have h69 : (nI c = 69) = (c = 69) := i 69 (by decide)
  have h83 : (nI c = 83) = (c = 83) := i 83 (by decide)
  have h70 : (nI c = 70) = (c = 70) := i 70 (by decide)
  have h80 : (nI c = 80) = (c = 80) := i 80 (by decide)
  have h65 : (nI c = 65) = (c = 65) := i 65 (by decide)
  have h66 : (nI c = 66) = (c = 66) := i 66 (by decide)
  have h82 : (nI c = 82) = (c = 82) := i 82 (by decide)
  have h78 : (nI c = 78) = (c = 78) := i 78 (by decide)
  have h76 : (nI c = 76) = (c = 76) := i 76 (by decide)
  unfold g_axisOf g_axisOf_43 g_axisOf_86 g_axisOf_113 q_axs
  simp only [h68, h69, h83, h70, h80, h65, h66, h82, h78, h76]
  by_cases e1 : c = 68
  · subst e1; rfl
  by_cases e2 : c = 69
  · subst e2; rfl
  by_cases e3 : c = 80
  · subst e3; rfl
  by_cases e4 : c = 65
  · subst e4; rfl
  by_cases e5 : c = 66
  · subst e5; rfl
  by_cases e6 : c = 83
  · subst e6; rfl
  by_cases e7 : c = 78
  · subst e7; rfl
  by_cases e8 : c = 76
  · subst e8; rfl
  by_cases e9 : c = 70
  · subst e9; rfl
  by_cases e10 : c = 82
  · subst e10; rfl
  simp only [e1, e2, e3, e4, e5, e6, e7, e8, e9, e10, if_false]
  rfl
theorem rq_dig {c : Nat} (hc : c < 128) : g_digit (nI c) st = some (if a_dig c = true then 1 else 0, st) := by
  unfold g_digit g_digit_16
  by_cases q1 : c < 48
  · rw [if_pos (show nI c < 48 from nI_lt (b := 48) q1 (by decide)), if_neg (by simp [a_dig]; omega)]
  rw [if_neg (show ¬ nI c < 48 from nI_nlt (b := 48) (by omega) (by omega))]
  by_cases q2 : 57 < c
  · rw [if_pos (show 57 < nI c from nI_lt (a := 57) q2 (by omega)), if_neg (by simp [a_dig]; omega)]
  rw [if_neg (show ¬ 57 < nI c from nI_nlt (a := 57) (by omega) (by decide)), if_pos (by simp [a_dig]; omega)]
theorem q_quo_at : q_quo xs xs.length = xs.length := by
  unfold q_quo
  rw [Nat.sub_self]
  rfl
theorem q_quo_step {q : Nat} (hq : q < xs.length) : q_quo xs q = if xs.getD q 0 = 39 then q else q_quo xs (q + 1) := by
  unfold q_quo
  have st : ∀ (P : Nat → Bool) (m : Nat), mp_fst P (m + 1) q = if P q then some q else mp_fst P m (q + 1) := fun _ _ => rfl
  rw [show xs.length - q = (xs.length - (q + 1)) + 1 by omega, st]
  by_cases e : xs.getD q 0 = 39
  · rw [if_pos (decide_eq_true e), if_pos e]
  · rw [if_neg (by simpa using e), if_neg e]
theorem q_quo_le {p : Nat} (hp : p ≤ xs.length) : p ≤ q_quo xs p ∧ q_quo xs p ≤ xs.length := by
  unfold q_quo
  cases e : mp_fst (fun q => decide (xs.getD q 0 = 39)) (xs.length - p) p with
  | none => exact ⟨hp, Nat.le_refl _⟩
  | some q =>
    have := mp_fst_some _ _ e
    simp only []
    omega
theorem rq_strL (b : md_buf st xs) {x1 : Int32} : ∀ (r fu q : Nat), q + r = xs.length → r < fu → g_string_21 fu x1 (nI q) st = g_string_45 x1 (nI (q_quo xs q)) st := by
  have hl := b.2.2.1
  intro r
  induction r with
  | zero =>
    intro fu q h1 h2
    obtain ⟨fu, rfl⟩ : ∃ f, fu = f + 1 := ⟨fu - 1, by omega⟩
    have e : q = xs.length := by omega
    subst e
    unfold g_string_21
    rw [b.1, if_pos (nI_le (Nat.le_refl _) (by omega)), q_quo_at]
  | succ r ih =>
    intro fu q h1 h2
    obtain ⟨fu, rfl⟩ : ∃ f, fu = f + 1 := ⟨fu - 1, by omega⟩
    have lc := getD_lt b.2.2.2 q
    have c39 : nI (xs.getD q 0) = 39 ↔ xs.getD q 0 = 39 := nI_eq (b := 39) (by omega) (by decide)
    rw [q_quo_step (by omega)]
    unfold g_string_21
    rw [b.1, if_neg (nI_ge (by omega) (by omega)), mp_look b (by omega), Option.bind_some]
    by_cases e : xs.getD q 0 = 39
    · rw [if_pos (c39.mpr e), if_pos e]
    · rw [if_neg (fun w => e (c39.mp w)), if_neg e, nI_1]
      exact ih fu (q + 1) (by omega) (by omega)
theorem rq_str (b : md_buf st0 xs) {p lv nest ns np ne sta id : Nat} (hid : id < 65) (hp : p ≤ xs.length) (M : qM st0 st p lv nest ns np ne sta) : (∀ e, q_str xs p = .inl e → e ≤ xs.length ∧ mq (g_string (nI id) st) (fun s => qFr st0 s ∧ s.1 9 = nI e ∧ (∀ k, k ≠ 8 → k ≠ 9 → s.1 k = st.1 k))) ∧ ∀ q t, q_str xs p = .inr (q, t) → p < q ∧ q ≤ xs.length ∧ mq (g_string (nI id) st) (fun s => qM st0 s q lv nest ns np ne sta ∧ rTx xs (s.2.1 36 id) (s.2.1 37 id) t ∧ (∀ k, k ≠ 8 → s.1 k = st.1 k) ∧ ∀ a i, ¬ ((a = 36 ∨ a = 37) ∧ i = id) → s.2.1 a i = st.2.1 a i) := by
  obtain ⟨m1, m2, m3, m4, m5, m6, m7, m8, m9⟩ := M
  have hl := b.2.2.1
  have bs := m1.buf b
  have n1 : ¬ ((1 : Int32), st).1 = 0 := (by decide : ¬ (1 : Int32) = 0)
  unfold q_str g_string
  rw [m2, show (39 : Int32) = nI 39 from rfl, rm_must bs (by decide) m3 hp]
  by_cases q1 : xs.getD p 0 = 39
  · have hp1 := getD_pos q1 (by decide)
    have lq := q_quo_le (xs := xs) (p := p + 1) (by omega)
    have e21 : g_string_21 mF (nI id) (((1 : Int32), st).2.1 8 + 1) ((1 : Int32), st).2 = g_string_45 (nI id) (nI (q_quo xs (p + 1))) st := by
      show g_string_21 mF (nI id) (st.1 8 + 1) st = _
      rw [m2, nI_1]
      exact rq_strL bs (xs.length - (p + 1)) mF (p + 1) (by omega) (by unfold mF; omega)
    rw [if_neg (fun w => w q1), if_pos q1, Option.bind_some, if_neg n1, e21]
    unfold g_string_45
    rw [bs.1]
    have e61 : ∀ s : mT, s.1 8 = nI p → g_string_61 (nI id) (nI (q_quo xs (p + 1))) s = some (mm_F (mm_G (mm_G s 36 id (nI (p + 1))) 37 id (nI (q_quo xs (p + 1) - (p + 1)))) 8 (nI (q_quo xs (p + 1) + 1))) := fun s hs => by
      unfold g_string_61
      rw [mp_ix hid (by decide)]
      simp only [mm_lt]
      rw [mp_ix hid (by decide), hs, nI_1, show (mm_G s 36 id (nI (p + 1))).1 8 = nI p from hs, show nI (q_quo xs (p + 1)) - nI p - 1 = nI (q_quo xs (p + 1) - (p + 1)) by rw [nI_sub (by omega), show (1 : Int32) = nI 1 from rfl, nI_sub (by omega)]; congr 1, nI_1]
    by_cases q2 : xs.length ≤ q_quo xs (p + 1)
    · rw [if_pos q2, if_neg (nI_nlt q2 (by omega)), rm_err bs m3 (Nat.le_refl _), Option.bind_some, e61 _ ((fF_n (by decide)).trans m2)]
      refine ⟨fun e h => ?_, fun q t h => by cases h⟩
      cases h
      exact ⟨Nat.le_refl _, mq_some ⟨(((m1.F (by unfold qfld; omega)).G (by unfold qarr; omega)).G (by unfold qarr; omega)).F (by unfold qfld; omega), (fF_n (by decide)).trans (fF_s (st := st) (k := 9)), fun k h8 h9 => (fF_n h8).trans (fF_n (st := st) h9)⟩⟩
    · rw [if_neg q2, if_pos (nI_lt (by omega) (by omega)), e61 st m2]
      refine ⟨fun e h => (by cases h), fun q t h => ?_⟩
      cases h
      have f : ∀ k, k ≠ 8 → (mm_F (mm_G (mm_G st 36 id (nI (p + 1))) 37 id (nI (q_quo xs (p + 1) - (p + 1)))) 8 (nI (q_quo xs (p + 1) + 1))).1 k = st.1 k := fun k h8 => fF_n h8
      refine ⟨by omega, by omega, mq_some ⟨⟨((m1.G (by unfold qarr; omega)).G (by unfold qarr; omega)).F (by unfold qfld; omega), fF_s, (f 9 (by decide)).trans m3, (f 24 (by decide)).trans m4, (f 31 (by decide)).trans m5, (f 43 (by decide)).trans m6, (f 45 (by decide)).trans m7, (f 46 (by decide)).trans m8, (f 47 (by decide)).trans m9⟩, ?_, f, fun a i h => ?_⟩⟩
      · have ln := len_tk (xs := xs) (p := p + 1) (n := q_quo xs (p + 1) - (p + 1)) (by omega)
        refine ⟨p + 1, ?_, ?_, by rw [ln]; omega, by rw [ln]⟩
        · show (mm_G (mm_G st 36 id (nI (p + 1))) 37 id (nI (q_quo xs (p + 1) - (p + 1)))).2.1 36 id = _
          rw [fG_n (by decide), fG_s]
        · rw [ln]
          exact fG_s (st := mm_G st 36 id (nI (p + 1)))
      · show (mm_G (mm_G st 36 id (nI (p + 1))) 37 id (nI (q_quo xs (p + 1) - (p + 1)))).2.1 a i = _
        rw [fG_c (fun w => h ⟨Or.inr w.1, w.2⟩), fG_c (fun w => h ⟨Or.inl w.1, w.2⟩)]
  · rw [if_pos q1, if_neg q1, Option.bind_some, if_pos rfl]
    refine ⟨fun e h => ?_, fun q t h => by cases h⟩
    cases h
    exact ⟨hp, mq_some ⟨m1.F (by unfold qfld; omega), fF_s, fun k _ h9 => fF_n h9⟩⟩
end QQ3
-- paths in the reference: a step begins, a path begins
section QQ4
variable {st0 st : mT} {xs : List Nat} {p lv nest ns np ne : Nat}
/-- cells that are as they were -/
def qSame (st s : mT) (ch : Nat → Nat → Prop) : Prop := ∀ a i, ¬ ch a i → s.2.1 a i = st.2.1 a i
theorem q_sgn_eq {c : Nat} : q_sgn c ≤ 4 := by unfold q_sgn; split <;> (try split) <;> (try split) <;> (try split) <;> omega
theorem q_axs_le {c : Nat} : q_axs c ≤ 10 := by
  unfold q_axs
  split <;> (try split) <;> (try split) <;> (try split) <;> (try split) <;> (try split) <;> (try split) <;> (try split) <;> (try split) <;> (try split) <;> omega
/-- behind the sign of the axis: which kind -/
theorem rq_26 {s : mT} (b : md_buf s xs) {q : Nat} {x1 : Int32} (h8 : s.1 8 = nI q) (hq : q ≤ 1000) : g_beginStep_26 x1 s = g_beginStep_93 x1 (nI (a_let xs q)) (if a_let xs q = 0 ∧ q_sgn (xs.getD q 0) = 0 then -1 else nI (if a_let xs q = 0 then q_sgn (xs.getD q 0) else 0)) s := by
  have l6 := (a_let_small (xs := xs) (p := q)).1
  have lc := getD_lt b.2.2.2 q
  have i : ∀ k, k < 128 → (nI (xs.getD q 0) = nI k ↔ xs.getD q 0 = k) := fun k hk => nI_eq (by omega) (by omega)
  unfold g_beginStep_26
  rw [h8, mp_look b (by omega), Option.bind_some]
  simp only []
  rw [h8, mp_letters b (by omega), Option.bind_some]
  simp only []
  by_cases q0 : a_let xs q = 0
  · rw [if_pos (show nI (a_let xs q) ≤ 0 by rw [q0]; decide), q0]
    unfold q_sgn
    by_cases e1 : xs.getD q 0 = 42
    · rw [if_pos (show nI (xs.getD q 0) = 42 from (i 42 (by decide)).mpr e1), if_pos e1]
      rfl
    rw [if_neg (show ¬ nI (xs.getD q 0) = 42 from fun w => e1 ((i 42 (by decide)).mp w)), if_neg e1]
    by_cases e2 : xs.getD q 0 = 35
    · rw [if_pos (show nI (xs.getD q 0) = 35 from (i 35 (by decide)).mpr e2), if_pos e2]
      rfl
    rw [if_neg (show ¬ nI (xs.getD q 0) = 35 from fun w => e2 ((i 35 (by decide)).mp w)), if_neg e2]
    by_cases e3 : xs.getD q 0 = 37
    · rw [if_pos (show nI (xs.getD q 0) = 37 from (i 37 (by decide)).mpr e3), if_pos e3]
      rfl
    rw [if_neg (show ¬ nI (xs.getD q 0) = 37 from fun w => e3 ((i 37 (by decide)).mp w)), if_neg e3]
    by_cases e4 : xs.getD q 0 = 46
    · rw [if_pos (show nI (xs.getD q 0) = 46 from (i 46 (by decide)).mpr e4), if_pos e4]
      rfl
    rw [if_neg (show ¬ nI (xs.getD q 0) = 46 from fun w => e4 ((i 46 (by decide)).mp w)), if_neg e4]
    rfl
  · rw [if_neg (show ¬ nI (a_let xs q) ≤ 0 from nI_ge (a := 0) (by omega) (by omega)), if_neg (fun w => q0 w.1), if_neg q0]
    rfl
/-- the state behind a step's head: where it is linked -/
def qLnk (st s : mT) (lv ns : Nat) (last : Option Nat) (ow : Nat) : Prop := match last with
  | some l => s.2.1 30 l = nI ns ∧ s.1 48 = st.1 48
  | none => if lv = 0 then s.1 48 = nI ns else s.2.1 38 ow = nI ns ∧ s.1 48 = st.1 48
def qCh (lv ns : Nat) (last : Option Nat) (ow : Nat) (a i : Nat) : Prop := (25 ≤ a ∧ a ≤ 30 ∧ i = ns) ∨ (a = 30 ∧ last = some i) ∨ (a = 38 ∧ last = none ∧ lv ≠ 0 ∧ i = ow) ∨ ((a = 51 ∨ a = 52) ∧ i = lv)
theorem rq_step (b : md_buf st0 xs) (hp : p ≤ xs.length) (hlv : lv < 5) (hns : ns < 130) (M : qM st0 st p lv nest ns np ne 1) {last : Option Nat} {ow : Nat} (hlast : st.2.1 51 lv = (match last with | some l => nI l | none => -1)) (hl1 : ∀ l, last = some l → l < ns) (how : lv ≠ 0 → st.2.1 50 lv = nI ow ∧ ow < 65) : (a_let xs (q_hd xs p) = 0 ∧ q_sgn (xs.getD (q_hd xs p) 0) = 0 → q_hd xs p ≤ xs.length ∧ mq (g_beginStep st) (fun s => qFr st0 s ∧ s.1 9 = nI (q_hd xs p))) ∧ (¬ (a_let xs (q_hd xs p) = 0 ∧ q_sgn (xs.getD (q_hd xs p) 0) = 0) → p < q_hd xs p + (if a_let xs (q_hd xs p) = 0 then 1 else a_let xs (q_hd xs p)) ∧ q_hd xs p + (if a_let xs (q_hd xs p) = 0 then 1 else a_let xs (q_hd xs p)) ≤ xs.length ∧ mq (g_beginStep st) (fun s => qM st0 s (q_hd xs p + (if a_let xs (q_hd xs p) = 0 then 1 else a_let xs (q_hd xs p))) lv nest (ns + 1) np ne 2 ∧ (s.2.1 25 ns = nI (q_axs (xs.getD p 0)) ∧ s.2.1 26 ns = nI (if a_let xs (q_hd xs p) = 0 then q_sgn (xs.getD (q_hd xs p) 0) else 0) ∧ rTx xs (s.2.1 27 ns) (s.2.1 28 ns) ((xs.drop (q_hd xs p)).take (a_let xs (q_hd xs p))) ∧ s.2.1 29 ns = -1 ∧ s.2.1 30 ns = -1) ∧ s.2.1 51 lv = nI ns ∧ s.2.1 52 lv = -1 ∧ qLnk st s lv ns last ow ∧ s.1 49 = st.1 49 ∧ qSame st s (qCh lv ns last ow))) := by
  obtain ⟨m1, m2, m3, m4, m5, m6, m7, m8, m9⟩ := M
  have hl := b.2.2.1
  have bs := m1.buf b
  have lc := getD_lt bs.2.2.2 p
  have ax := q_axs_le (c := xs.getD p 0)
  have hd1 : q_hd xs p ≤ xs.length ∧ p ≤ q_hd xs p := by
    unfold q_hd
    by_cases e : q_axs (xs.getD p 0) = 0
    · rw [if_pos e]; exact ⟨hp, Nat.le_refl _⟩
    · rw [if_neg e]
      have : xs.getD p 0 ≠ 0 := fun w => e (by rw [w]; rfl)
      rcases Nat.lt_or_ge p xs.length with h | h
      · exact ⟨h, by omega⟩
      · exact absurd (by rw [List.getD_eq_getElem?_getD, List.getElem?_eq_none h]; rfl) this
  -- the sign of the axis
  have e0 : ∃ s1, g_beginStep st = g_beginStep_26 (nI (q_axs (xs.getD p 0))) s1 ∧ qM st0 s1 (q_hd xs p) lv nest ns np ne 1 ∧ (∀ a i, s1.2.1 a i = st.2.1 a i) ∧ ∀ k, k ≠ 8 → s1.1 k = st.1 k := by
    unfold g_beginStep
    rw [m2, mp_look bs (by omega), Option.bind_some]
    simp only []
    rw [rq_axs lc, Option.bind_some]
    simp only []
    by_cases e : q_axs (xs.getD p 0) = 0
    · rw [if_pos (show nI (q_axs (xs.getD p 0)) ≤ 0 by rw [e]; decide)]
      exact ⟨st, rfl, by unfold q_hd; rw [if_pos e]; exact ⟨m1, m2, m3, m4, m5, m6, m7, m8, m9⟩, fun _ _ => rfl, fun _ _ => rfl⟩
    · rw [if_neg (show ¬ nI (q_axs (xs.getD p 0)) ≤ 0 from nI_ge (a := 0) (by omega) (by omega))]
      have f : ∀ k, k ≠ 8 → (mm_F st 8 (st.1 8 + 1)).1 k = st.1 k := fun k hk => fF_n hk
      refine ⟨_, rfl, ?_, fun _ _ => rfl, f⟩
      unfold q_hd
      rw [if_neg e]
      exact ⟨m1.F (by unfold qfld; omega), fF_s.trans (by rw [m2, nI_1]), (f 9 (by decide)).trans m3, (f 24 (by decide)).trans m4, (f 31 (by decide)).trans m5, (f 43 (by decide)).trans m6, (f 45 (by decide)).trans m7, (f 46 (by decide)).trans m8, (f 47 (by decide)).trans m9⟩
  obtain ⟨s1, e1, M1, A1, F1⟩ := e0
  obtain ⟨n1, n2, n3, n4, n5, n6, n7, n8, n9⟩ := M1
  have b1 := n1.buf b
  have l6 := (a_let_small (xs := xs) (p := q_hd xs p)).1
  have lle := a_let_le (xs := xs) (p := q_hd xs p) hd1.1
  rw [e1, rq_26 b1 n2 (by omega)]
  refine ⟨fun w => ⟨hd1.1, ?_⟩, fun w => ?_⟩
  · rw [if_pos w]
    unfold g_beginStep_93
    rw [if_neg (by decide), n2, rm_err b1 n3 hd1.1, Option.bind_some]
    exact mq_some ⟨n1.F (by unfold qfld; omega), fF_s⟩
  · rw [if_neg w]
    have hp2 : q_hd xs p + (if a_let xs (q_hd xs p) = 0 then 1 else a_let xs (q_hd xs p)) ≤ xs.length ∧ p < q_hd xs p + (if a_let xs (q_hd xs p) = 0 then 1 else a_let xs (q_hd xs p)) := by
      by_cases e : a_let xs (q_hd xs p) = 0
      · rw [if_pos e]
        have : xs.getD (q_hd xs p) 0 ≠ 0 := fun k => w ⟨e, by rw [k]; rfl⟩
        rcases Nat.lt_or_ge (q_hd xs p) xs.length with h | h
        · exact ⟨h, by omega⟩
        · exact absurd (by rw [List.getD_eq_getElem?_getD, List.getElem?_eq_none h]; rfl) this
      · rw [if_neg e]
        exact ⟨lle, by omega⟩
    refine ⟨hp2.2, hp2.1, ?_⟩
    generalize hkd : (if a_let xs (q_hd xs p) = 0 then q_sgn (xs.getD (q_hd xs p) 0) else 0) = kd
    have kd4 : kd ≤ 4 := by
      rw [← hkd]
      split
      · exact q_sgn_eq
      · omega
    unfold g_beginStep_93
    rw [if_pos (show (0 : Int32) ≤ nI kd from nI_le (a := 0) (Nat.zero_le _) (by omega)), n4, mp_ix hns (by decide)]
    simp only [mm_lt]
    have i24 : ∀ (v1 v2 v3 v4 v5 v6 : Int32), (mm_G s1 25 ns v1).1 24 = nI ns ∧ (mm_G (mm_G s1 25 ns v1) 26 ns v2).1 24 = nI ns ∧ (mm_G (mm_G (mm_G s1 25 ns v1) 26 ns v2) 27 ns v3).1 24 = nI ns ∧ (mm_G (mm_G (mm_G (mm_G s1 25 ns v1) 26 ns v2) 27 ns v3) 28 ns v4).1 24 = nI ns ∧ (mm_G (mm_G (mm_G (mm_G (mm_G s1 25 ns v1) 26 ns v2) 27 ns v3) 28 ns v4) 29 ns v5).1 24 = nI ns ∧ (mm_G (mm_G (mm_G (mm_G (mm_G (mm_G s1 25 ns v1) 26 ns v2) 27 ns v3) 28 ns v4) 29 ns v5) 30 ns v6).1 24 = nI ns := fun _ _ _ _ _ _ => ⟨n4, n4, n4, n4, n4, n4⟩
    rw [(i24 _ 0 0 0 0 0).1, mp_ix hns (by decide), (i24 _ _ 0 0 0 0).2.1, mp_ix hns (by decide), (i24 _ _ _ 0 0 0).2.2.1, mp_ix hns (by decide), (i24 _ _ _ _ 0 0).2.2.2.1, mp_ix hns (by decide), (i24 _ _ _ _ _ 0).2.2.2.2.1, mp_ix hns (by decide), show (mm_G (mm_G s1 25 ns (nI (q_axs (xs.getD p 0)))) 26 ns (nI kd)).1 8 = nI (q_hd xs p) from n2]
    generalize hs2 : mm_G (mm_G (mm_G (mm_G (mm_G (mm_G s1 25 ns (nI (q_axs (xs.getD p 0)))) 26 ns (nI kd)) 27 ns (nI (q_hd xs p))) 28 ns (nI (a_let xs (q_hd xs p)))) 29 ns (-1)) 30 ns (-1) = s2
    have c2 : s2.1 = s1.1 := by rw [← hs2]; rfl
    have c25 : s2.2.1 25 ns = nI (q_axs (xs.getD p 0)) := by rw [← hs2, fG_n (by decide), fG_n (by decide), fG_n (by decide), fG_n (by decide), fG_n (by decide), fG_s]
    have c26 : s2.2.1 26 ns = nI kd := by rw [← hs2, fG_n (by decide), fG_n (by decide), fG_n (by decide), fG_n (by decide), fG_s]
    have c27 : s2.2.1 27 ns = nI (q_hd xs p) := by rw [← hs2, fG_n (by decide), fG_n (by decide), fG_n (by decide), fG_s]
    have c28 : s2.2.1 28 ns = nI (a_let xs (q_hd xs p)) := by rw [← hs2, fG_n (by decide), fG_n (by decide), fG_s]
    have c29 : s2.2.1 29 ns = -1 := by rw [← hs2, fG_n (by decide), fG_s]
    have c30 : s2.2.1 30 ns = -1 := by rw [← hs2, fG_s]
    have cs : ∀ a i, ¬ (25 ≤ a ∧ a ≤ 30 ∧ i = ns) → s2.2.1 a i = st.2.1 a i := fun a i h => by rw [← hs2, fG_c (by omega), fG_c (by omega), fG_c (by omega), fG_c (by omega), fG_c (by omega), fG_c (by omega), A1]
    have q2 : qFr st0 s2 := by rw [← hs2]; exact (((((n1.G (by unfold qarr; omega)).G (by unfold qarr; omega)).G (by unfold qarr; omega)).G (by unfold qarr; omega)).G (by unfold qarr; omega)).G (by unfold qarr; omega)
    rw [show s2.1 45 = nI lv by rw [c2]; exact n7, mp_ld hlv (by decide), show s2.1 24 = nI ns by rw [c2]; exact n4, show s2.2.1 51 lv = st.2.1 51 lv from cs 51 lv (by omega), hlast]
    -- the end, from the linked state
    have fin : ∀ s3 : mT, qFr st0 s3 → (∀ k, k ≠ 48 → s3.1 k = s1.1 k) → (∀ a, 25 ≤ a → a ≤ 30 → s3.2.1 a ns = s2.2.1 a ns) → qLnk st s3 lv ns last ow → (∀ a i, ¬ (25 ≤ a ∧ a ≤ 30 ∧ i = ns) → ¬ (a = 30 ∧ last = some i) → ¬ (a = 38 ∧ last = none ∧ lv ≠ 0 ∧ i = ow) → s3.2.1 a i = st.2.1 a i) → mq (g_beginStep_239 (nI (a_let xs (q_hd xs p))) s3) (fun s => qM st0 s (q_hd xs p + (if a_let xs (q_hd xs p) = 0 then 1 else a_let xs (q_hd xs p))) lv nest (ns + 1) np ne 2 ∧ (s.2.1 25 ns = nI (q_axs (xs.getD p 0)) ∧ s.2.1 26 ns = nI kd ∧ rTx xs (s.2.1 27 ns) (s.2.1 28 ns) ((xs.drop (q_hd xs p)).take (a_let xs (q_hd xs p))) ∧ s.2.1 29 ns = -1 ∧ s.2.1 30 ns = -1) ∧ s.2.1 51 lv = nI ns ∧ s.2.1 52 lv = -1 ∧ qLnk st s lv ns last ow ∧ s.1 49 = st.1 49 ∧ qSame st s (qCh lv ns last ow)) := fun s3 k1 k2 k3 k4 k5 => by
      have e286 : ∀ x : Int32, g_beginStep_286 x (nI (q_hd xs p)) (mm_F (mm_G (mm_G s3 51 lv (nI ns)) 52 lv (-1)) 24 (nI (ns + 1))) = some (mm_F (mm_F (mm_F (mm_G (mm_G s3 51 lv (nI ns)) 52 lv (-1)) 24 (nI (ns + 1))) 8 (nI (q_hd xs p) + x)) 47 2) := fun x => rfl
      have ln := len_tk (xs := xs) (p := q_hd xs p) (n := a_let xs (q_hd xs p)) lle
      have done : ∀ x : Int32, nI (q_hd xs p) + x = nI (q_hd xs p + (if a_let xs (q_hd xs p) = 0 then 1 else a_let xs (q_hd xs p))) → mq (some (mm_F (mm_F (mm_F (mm_G (mm_G s3 51 lv (nI ns)) 52 lv (-1)) 24 (nI (ns + 1))) 8 (nI (q_hd xs p) + x)) 47 2)) (fun s => qM st0 s (q_hd xs p + (if a_let xs (q_hd xs p) = 0 then 1 else a_let xs (q_hd xs p))) lv nest (ns + 1) np ne 2 ∧ (s.2.1 25 ns = nI (q_axs (xs.getD p 0)) ∧ s.2.1 26 ns = nI kd ∧ rTx xs (s.2.1 27 ns) (s.2.1 28 ns) ((xs.drop (q_hd xs p)).take (a_let xs (q_hd xs p))) ∧ s.2.1 29 ns = -1 ∧ s.2.1 30 ns = -1) ∧ s.2.1 51 lv = nI ns ∧ s.2.1 52 lv = -1 ∧ qLnk st s lv ns last ow ∧ s.1 49 = st.1 49 ∧ qSame st s (qCh lv ns last ow)) := fun x ex => by
        have f : ∀ k, k ≠ 24 → k ≠ 8 → k ≠ 47 → (mm_F (mm_F (mm_F (mm_G (mm_G s3 51 lv (nI ns)) 52 lv (-1)) 24 (nI (ns + 1))) 8 (nI (q_hd xs p) + x)) 47 2).1 k = s3.1 k := fun k h1 h2 h3 => (fF_n h3).trans ((fF_n h2).trans (fF_n h1))
        have c : ∀ a i, ¬ ((a = 51 ∨ a = 52) ∧ i = lv) → (mm_G (mm_G s3 51 lv (nI ns)) 52 lv (-1)).2.1 a i = s3.2.1 a i := fun a i h => by rw [fG_c (fun w => h ⟨Or.inr w.1, w.2⟩), fG_c (fun w => h ⟨Or.inl w.1, w.2⟩)]
        have g : ∀ k, k ≠ 48 → s3.1 k = s1.1 k := k2
        refine mq_some ⟨⟨((((k1.G (by unfold qarr; omega)).G (by unfold qarr; omega)).F (by unfold qfld; omega)).F (by unfold qfld; omega)).F (by unfold qfld; omega), (fF_n (by decide)).trans (fF_s.trans ex), (f 9 (by decide) (by decide) (by decide)).trans ((g 9 (by decide)).trans n3), (fF_n (by decide)).trans ((fF_n (by decide)).trans fF_s), (f 31 (by decide) (by decide) (by decide)).trans ((g 31 (by decide)).trans n5), (f 43 (by decide) (by decide) (by decide)).trans ((g 43 (by decide)).trans n6), (f 45 (by decide) (by decide) (by decide)).trans ((g 45 (by decide)).trans n7), (f 46 (by decide) (by decide) (by decide)).trans ((g 46 (by decide)).trans n8), fF_s⟩, ⟨?_, ?_, ?_, ?_, ?_⟩, ?_, ?_, ?_, ?_, ?_⟩
        · exact (c 25 ns (by omega)).trans ((k3 25 (by omega) (by omega)).trans c25)
        · exact (c 26 ns (by omega)).trans ((k3 26 (by omega) (by omega)).trans c26)
        · exact ⟨q_hd xs p, (c 27 ns (by omega)).trans ((k3 27 (by omega) (by omega)).trans c27), by rw [ln]; exact (c 28 ns (by omega)).trans ((k3 28 (by omega) (by omega)).trans c28), by rw [ln]; exact lle, by rw [ln]⟩
        · exact (c 29 ns (by omega)).trans ((k3 29 (by omega) (by omega)).trans c29)
        · exact (c 30 ns (by omega)).trans ((k3 30 (by omega) (by omega)).trans c30)
        · show (mm_G (mm_G s3 51 lv (nI ns)) 52 lv (-1)).2.1 51 lv = _
          rw [fG_n (by decide), fG_s]
        · exact fG_s (st := mm_G s3 51 lv (nI ns)) (a := 52)
        · unfold qLnk at k4 ⊢
          cases last with
          | some l => exact ⟨(c 30 l (by omega)).trans k4.1, (f 48 (by decide) (by decide) (by decide)).trans k4.2⟩
          | none =>
            simp only [] at k4 ⊢
            split
            · rename_i h0
              rw [if_pos h0] at k4
              exact (f 48 (by decide) (by decide) (by decide)).trans k4
            · rename_i h0
              rw [if_neg h0] at k4
              exact ⟨(c 38 ow (by omega)).trans k4.1, (f 48 (by decide) (by decide) (by decide)).trans k4.2⟩
        · exact (f 49 (by decide) (by decide) (by decide)).trans ((g 49 (by decide)).trans (F1 49 (by decide)))
        · intro a i h
          unfold qCh at h
          exact (c a i (fun w => h (Or.inr (Or.inr (Or.inr w))))).trans (k5 a i (fun w => h (Or.inl w)) (fun w => h (Or.inr (Or.inl w))) (fun w => h (Or.inr (Or.inr (Or.inl w)))))
      unfold g_beginStep_239
      rw [show s3.1 45 = nI lv from (k2 45 (by decide)).trans n7, mp_ix hlv (by decide)]
      simp only [mm_lt]
      rw [show (mm_G s3 51 lv (s3.1 24)).1 45 = nI lv from (k2 45 (by decide)).trans n7, mp_ix hlv (by decide), show s3.1 24 = nI ns from (k2 24 (by decide)).trans n4, show (mm_G (mm_G s3 51 lv (nI ns)) 52 lv (-1)).1 24 = nI ns from (k2 24 (by decide)).trans n4, nI_1, show (mm_F (mm_G (mm_G s3 51 lv (nI ns)) 52 lv (-1)) 24 (nI (ns + 1))).1 8 = nI (q_hd xs p) from (fF_n (by decide)).trans ((k2 8 (by decide)).trans n2), e286, e286]
      by_cases e : a_let xs (q_hd xs p) = 0
      · rw [if_pos (show nI (a_let xs (q_hd xs p)) ≤ 0 by rw [e]; decide)]
        exact done 1 (by rw [if_pos e, nI_1])
      · rw [if_neg (show ¬ nI (a_let xs (q_hd xs p)) ≤ 0 from nI_ge (a := 0) (by omega) (by omega))]
        exact done _ (by rw [if_neg e, nI_add])
    have g1 : ∀ k, k ≠ 48 → s2.1 k = s1.1 k := fun k _ => by rw [c2]
    cases last with
    | some l =>
      have hl2 := hl1 l rfl
      rw [if_neg (show ¬ nI l < 0 from nI_pos (by omega)), mp_ix (by omega) (by decide)]
      refine fin (mm_G s2 30 l (nI ns)) (q2.G (by unfold qarr; omega)) g1 (fun a a1 a2 => fG_c (by omega)) ⟨fG_s, ?_⟩ (fun a i h1 h2 h3 => by rw [fG_c (fun w => h2 ⟨w.1, by rw [w.2]⟩)]; exact cs a i h1)
      show s2.1 48 = st.1 48
      rw [c2]
      exact F1 48 (by decide)
    | none =>
      rw [if_pos (show (-1 : Int32) < 0 by decide)]
      by_cases h0 : lv = 0
      · rw [if_pos (show nI lv = 0 by rw [h0]; rfl)]
        refine fin (mm_F s2 48 (nI ns)) (q2.F (by unfold qfld; omega)) (fun k hk => (fF_n hk).trans (g1 k hk)) (fun a _ _ => rfl) ?_ (fun a i h1 _ _ => cs a i h1)
        unfold qLnk
        simp only []
        rw [if_pos h0]
        exact fF_s
      · obtain ⟨o1, o2⟩ := how h0
        rw [if_neg (show ¬ nI lv = 0 from fun w => h0 ((nI_eq (b := 0) (by omega) (by decide)).mp w)), mp_ld hlv (by decide), show s2.2.1 50 lv = nI ow from (cs 50 lv (by omega)).trans o1, mp_ix o2 (by decide)]
        refine fin (mm_G s2 38 ow (nI ns)) (q2.G (by unfold qarr; omega)) g1 (fun a a1 a2 => by rw [fG_n (by omega)]) ?_ (fun a i h1 _ h3 => by rw [fG_c (fun w => h3 ⟨w.1, rfl, h0, w.2⟩)]; exact cs a i h1)
        unfold qLnk
        simp only []
        rw [if_neg h0]
        refine ⟨fG_s, ?_⟩
        show s2.1 48 = st.1 48
        rw [c2]
        exact F1 48 (by decide)
end QQ4
