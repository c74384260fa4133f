-- paths: what they lead to
def q_rng (a b : Nat) : List Nat := (List.range (b - a)).map (fun i => a + i)
def q_anc (D : Nat → nd) : Nat → Nat → List Nat
  | 0, _ => []
  | f + 1, x => match (D x).2.2.1 with
    | none => []
    | some p => p :: q_anc D f p
def q_ax (n : Nat) (D : Nat → nd) (a : Nat) (x : Option Nat) : List Nat := match x with
  | none => if a = 0 then (if n = 0 then [] else [0]) else if a = 1 ∨ a = 2 then q_rng 0 n else []
  | some x => if a = 0 then (q_rng (x + 1) n).filter (fun k => decide ((D k).2.2.1 = some x)) else if a = 1 then q_rng (x + 1) (a_end n D x) else if a = 2 then x :: q_rng (x + 1) (a_end n D x) else if a = 3 then (q_anc D 1 x) else if a = 4 then q_anc D 50 x else if a = 5 then x :: q_anc D 50 x else if a = 6 then [x] else if a = 7 then (q_rng (x + 1) n).filter (fun k => decide ((D k).2.2.1 = (D x).2.2.1)) else if a = 8 then (q_rng 0 x).reverse.filter (fun k => decide ((D k).2.2.1 = (D x).2.2.1)) else if a = 9 then q_rng (a_end n D x) n else (q_rng 0 x).reverse.filter (fun k => decide (a_end n D k ≤ x))
def q_kd (D : Nat → nd) (k : Nat) (nm : List Nat) (y : Nat) : Bool := if k = 0 then decide ((D y).2.1 = 1 ∧ (D y).2.2.2.2.2 = nm) else if k = 4 then true else decide ((D y).2.1 = k)
/-- a predicate of an attribute -/
def q_hat (D : Nat → nd) (what : Nat) (nm str : List Nat) (y : Nat) : Bool := decide ((D y).2.1 = 1) && (match (D y).2.2.2.2.1.find? (fun q => decide (q.1 = nm)) with
  | none => false
  | some q => decide (what = 2 ∨ q.2 = str))
/-- the text of a node and of all that lies in it -/
def q_sv (n : Nat) (D : Nat → nd) (y : Nat) : List Nat := ((q_rng y (a_end n D y)).map (fun q => if (D q).2.1 = 2 ∨ (q = y ∧ (D q).2.1 = 3) then (D q).2.2.2.2.2 else [])).flatten
def q_rd (n : Nat) (D : Nat → nd) (y : Nat) (str : List Nat) (beg : Bool) : Bool := if beg = true then str.isPrefixOf (q_sv n D y) else decide (q_sv n D y = str)
/-- those of a list for which h holds at their position -/
def q_flt (h : Nat → Nat → Nat → Bool) (of : Nat) : Nat → List Nat → List Nat
  | _, [] => []
  | k, x :: l => if h x k of = true then x :: q_flt h of (k + 1) l else q_flt h of (k + 1) l
def q_sft {α : Type} (H : α → Nat → Nat → Nat → Bool) : List α → List Nat → List Nat
  | [], l => l
  | pr :: ps, l => q_sft H ps (q_flt (H pr) l.length 1 l)
def q_stp {α : Type} (n : Nat) (D : Nat → nd) (H : α → Nat → Nat → Nat → Bool) (s : Nat × Nat × List Nat × List α) (x : Option Nat) : List Nat := q_sft H s.2.2.2 ((q_ax n D s.1 x).filter (q_kd D s.2.1 s.2.2.1))
def q_nx {α : Type} (n : Nat) (D : Nat → nd) (H : α → Nat → Nat → Nat → Bool) (s : Nat × Nat × List Nat × List α) (S : Nat → Bool) (y : Nat) : Bool := (List.range n).any (fun z => S z && decide (y ∈ q_stp n D H s (some z)))
def q_ld {α : Type} (n : Nat) (D : Nat → nd) (H : α → Nat → Nat → Nat → Bool) : List (Nat × Nat × List Nat × List α) → (Nat → Bool) → Nat → Bool
  | [], S => S
  | s :: l, S => q_ld n D H l (q_nx n D H s S)
def q_rch {α : Type} (n : Nat) (D : Nat → nd) (H : α → Nat → Nat → Nat → Bool) (l : List (Nat × Nat × List Nat × List α)) (x : Option Nat) : Nat → Bool := match l with
  | [] => fun _ => false
  | s :: l => q_ld n D H l (fun y => decide (y ∈ q_stp n D H s x))
/-- does a path in a predicate hold from x -/
def q_hit {α : Type} (n : Nat) (D : Nat → nd) (H : α → Nat → Nat → Nat → Bool) (what : Nat) (str : List Nat) (ab : Bool) (l : List (Nat × Nat × List Nat × List α)) (x : Nat) : Bool := (List.range n).any (fun y => q_rch n D H l (if ab = true then none else some x) y && (if what = 4 then true else q_rd n D y str (decide (what = 6))))
def q_H (n : Nat) (D : Nat → nd) : (N : Nat) → qPr N → Nat → Nat → Nat → Bool
  | 0, _, _, _, _ => false
  | N + 1, pr, x, k, of => pr.1 != (if pr.2.1 = 0 then decide (k = pr.2.2.1) else if pr.2.1 = 1 then decide (k = of) else if pr.2.1 < 4 then q_hat D pr.2.1 pr.2.2.2.1 pr.2.2.2.2.1 x else q_hit n D (q_H n D N) pr.2.1 pr.2.2.2.2.1 pr.2.2.2.2.2.1 pr.2.2.2.2.2.2 x)
def q_ans (n : Nat) (D : Nat → nd) (pt : qPt 3) (x : Nat) : List Nat := (List.range n).filter (q_rch n D (q_H n D 3) pt.2 (if pt.1 = true then none else some x))
-- sets of places as bits
def bt (m : Int64) (y : Nat) : Bool := m.toBitVec.getLsbD y
def bR (m : Int64) (S : Nat → Bool) : Prop := ∀ y, y < 64 → bt m y = S y
theorem b_zero {y : Nat} : bt 0 y = false := by unfold bt; simp
theorem b_or {a c : Int64} {y : Nat} : bt (a ||| c) y = (bt a y || bt c y) := by
  unfold bt
  rw [Int64.toBitVec_or, BitVec.getLsbD_or]
theorem b_sh {x : Nat} (h : x < 64) : (nI x).toInt64 &&& 63 = Int64.ofNat x := by
  rw [nI_l (by omega)]
  revert x
  decide
theorem b_one0 : ∀ x, x < 64 → ∀ y, y < 64 → bt ((1 : Int64) <<< (Int64.ofNat x)) y = decide (y = x) := by decide +kernel
theorem b_one {x y : Nat} (h : x < 64) (hy : y < 64) : bt ((1 : Int64) <<< ((nI x).toInt64 &&& 63)) y = decide (y = x) := by
  rw [b_sh h]
  exact b_one0 x h y hy
theorem b_smod : ∀ y, y < 64 → ((Int64.ofNat y).toBitVec.smod 64).toNat = y := by decide +kernel
theorem b_and1 {m : Int64} {y : Nat} (h : y < 64) : (m >>> ((nI y).toInt64 &&& 63)) &&& 1 = if bt m y = true then 1 else 0 := by
  rw [b_sh h, ← Int64.toBitVec_inj, Int64.toBitVec_and, Int64.toBitVec_shiftRight]
  refine BitVec.eq_of_getLsbD_eq (fun i hi => ?_)
  have e1 : (1 : Int64).toBitVec.getLsbD i = decide (i = 0) := by
    show (1#64).getLsbD i = _
    rw [BitVec.getLsbD_one]
    simp
  rw [BitVec.getLsbD_and, e1]
  by_cases q : i = 0
  · subst q
    rw [decide_eq_true rfl, Bool.and_true]
    have e2 : (m.toBitVec.sshiftRight' ((Int64.ofNat y).toBitVec.smod 64)).getLsbD 0 = bt m y := by
      unfold bt BitVec.sshiftRight'
      rw [b_smod y h, BitVec.getLsbD_sshiftRight]
      simp [h]
    rw [e2]
    cases bt m y with
    | true => rfl
    | false => rfl
  · rw [decide_eq_false q, Bool.and_false]
    cases bt m y with
    | true => show false = (1 : Int64).toBitVec.getLsbD i; rw [e1, decide_eq_false q]
    | false => show false = (0 : Int64).toBitVec.getLsbD i; simp
theorem b_test {m : Int64} {y : Nat} (h : y < 64) : mm_cmp ((m >>> ((nI y).toInt64 &&& 63)) &&& (1 : Int64)) (1 : Int64) = 0 ↔ bt m y = true := by
  rw [b_and1 h]
  cases bt m y with
  | true => simp only [if_true]; exact ⟨fun _ => trivial, fun _ => by decide⟩
  | false => exact ⟨fun w => absurd w (by decide), fun w => by cases w⟩
theorem b_ext {a c : Int64} (h : ∀ y, y < 64 → bt a y = bt c y) : a = c := by
  rw [← Int64.toBitVec_inj]
  exact BitVec.eq_of_getLsbD_eq (fun i hi => h i hi)
theorem b_cmp0 {m : Int64} : mm_cmp m 0 = 0 ↔ ∀ y, y < 64 → bt m y = false := by
  unfold mm_cmp
  constructor
  · intro w y hy
    split at w
    · exact absurd w (by decide)
    · split at w
      · rename_i e; rw [e]; exact b_zero
      · exact absurd w (by decide)
  · intro w
    have : m = 0 := b_ext (fun y hy => by rw [w y hy, b_zero])
    rw [this]
    decide
