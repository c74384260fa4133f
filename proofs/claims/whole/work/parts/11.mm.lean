-- the reference's world: its fields, its arrays, its masks; the rows of walks there
abbrev mT : Type := (Nat → Int32) × (Nat → Nat → Int32) × (Nat → Int64)
def mm_F (st : mT) (k : Nat) (v : Int32) : mT := (upd st.1 k v, st.2.1, st.2.2)
def mm_G (st : mT) (k i : Nat) (v : Int32) : mT := (st.1, (fun j => if j = k then upd (st.2.1 k) i v else st.2.1 j), st.2.2)
def mm_J (st : mT) (i : Nat) (v : Int64) : mT := (st.1, st.2.1, vp_updL st.2.2 i v)

def mm_o (M : Nat → Nat) (st : mT) : List Value := [.ref (M 0), .ref (M 1), .ref (M 2), .ref (M 3), .int (st.1 4), .int (st.1 5), .ref (M 6), .int (st.1 7), .int (st.1 8), .int (st.1 9), .int (st.1 10), .int (st.1 11), .int (st.1 12), .int (st.1 13), .int (st.1 14), .ref (M 15), .ref (M 16), .ref (M 17), .int (st.1 18), .int (st.1 19), .ref (M 20), .ref (M 21), .ref (M 22), .int (st.1 23), .int (st.1 24), .ref (M 25), .ref (M 26), .ref (M 27), .ref (M 28), .ref (M 29), .ref (M 30), .int (st.1 31), .ref (M 32), .ref (M 33), .ref (M 34), .ref (M 35), .ref (M 36), .ref (M 37), .ref (M 38), .ref (M 39), .ref (M 40), .ref (M 41), .ref (M 42), .int (st.1 43), .ref (M 44), .int (st.1 45), .int (st.1 46), .int (st.1 47), .int (st.1 48), .int (st.1 49), .ref (M 50), .ref (M 51), .ref (M 52), .int (st.1 53), .ref (M 54), .int (st.1 55), .ref (M 56), .int (st.1 57), .int (st.1 58), .int (st.1 59)]
def mm_A : List Nat := [0, 1, 2, 3, 6, 15, 16, 17, 20, 21, 22, 25, 26, 27, 28, 29, 30, 32, 33, 34, 35, 36, 37, 38, 39, 40, 41, 42, 44, 50, 51, 52, 54, 56]
def mm_e (dA : Nat → ClassId) (st : mT) (k : Nat) : va_E := match k with
  | 0 => .inl (dA 0, 5161, .inl (st.2.1 0))
  | 1 => .inl (dA 0, 5161, .inl (st.2.1 1))
  | 2 => .inl (dA 0, 5120, .inl (st.2.1 2))
  | 3 => .inl (dA 0, 40, .inl (st.2.1 3))
  | 6 => .inl (dA 1, 120, .inl (st.2.1 6))
  | 15 => .inl (dA 0, 8, .inl (st.2.1 15))
  | 16 => .inl (dA 0, 8, .inl (st.2.1 16))
  | 17 => .inl (dA 0, 8, .inl (st.2.1 17))
  | 20 => .inl (dA 0, 30, .inl (st.2.1 20))
  | 21 => .inl (dA 0, 30, .inl (st.2.1 21))
  | 22 => .inl (dA 0, 40, .inl (st.2.1 22))
  | 25 => .inl (dA 0, 130, .inl (st.2.1 25))
  | 26 => .inl (dA 0, 130, .inl (st.2.1 26))
  | 27 => .inl (dA 0, 130, .inl (st.2.1 27))
  | 28 => .inl (dA 0, 130, .inl (st.2.1 28))
  | 29 => .inl (dA 0, 130, .inl (st.2.1 29))
  | 30 => .inl (dA 0, 130, .inl (st.2.1 30))
  | 32 => .inl (dA 0, 65, .inl (st.2.1 32))
  | 33 => .inl (dA 0, 65, .inl (st.2.1 33))
  | 34 => .inl (dA 0, 65, .inl (st.2.1 34))
  | 35 => .inl (dA 0, 65, .inl (st.2.1 35))
  | 36 => .inl (dA 0, 65, .inl (st.2.1 36))
  | 37 => .inl (dA 0, 65, .inl (st.2.1 37))
  | 38 => .inl (dA 0, 65, .inl (st.2.1 38))
  | 39 => .inl (dA 0, 65, .inl (st.2.1 39))
  | 40 => .inl (dA 3, 65, .inl (st.2.1 40))
  | 41 => .inl (dA 3, 65, .inl (st.2.1 41))
  | 42 => .inl (dA 4, 65, .inr (.inl st.2.2))
  | 44 => .inl (dA 0, 65, .inl (st.2.1 44))
  | 50 => .inl (dA 0, 5, .inl (st.2.1 50))
  | 51 => .inl (dA 0, 5, .inl (st.2.1 51))
  | 52 => .inl (dA 0, 5, .inl (st.2.1 52))
  | 54 => .inl (dA 0, 41, .inl (st.2.1 54))
  | 56 => .inl (dA 0, 40, .inl (st.2.1 56))
  | _ => .inl (dA 0, 0, .inl (st.2.1 k))
def mm_h (dA : Nat → ClassId) (h0 : hm_T) (r : Nat) (M : Nat → Nat) (st : mT) : hm_T := fun b => if b = r then some (.inr (2, mm_o M st)) else match mm_A.find? (fun k => M k == b) with
  | some k => some (mm_e dA st k)
  | none => h0 b
def mm_ok (r : Nat) (M : Nat → Nat) : Prop := (∀ k ∈ mm_A, M k ≠ r) ∧ ∀ j ∈ mm_A, ∀ k ∈ mm_A, M j = M k → j = k
theorem mm_hr {dA : Nat → ClassId} {h0 : hm_T} {r : Nat} {M : Nat → Nat} {st : mT} : mm_h dA h0 r M st r = some (.inr (2, mm_o M st)) := by
  unfold mm_h
  rw [if_pos rfl]
theorem mm_ha {dA : Nat → ClassId} {h0 : hm_T} {r : Nat} {M : Nat → Nat} {st : mT} (hM : mm_ok r M) {k : Nat} (hk : k ∈ mm_A) : mm_h dA h0 r M st (M k) = some (mm_e dA st k) := by
  unfold mm_h
  rw [if_neg (hM.1 k hk)]
  cases e : mm_A.find? (fun j => M j == M k) with
  | none => exact absurd (List.find?_eq_none.mp e k hk) (by simp)
  | some j =>
    have h1 := List.find?_some e
    have h2 := List.mem_of_find?_eq_some e
    rw [hM.2 j h2 k hk (by simpa using h1)]
theorem mm_hF {dA : Nat → ClassId} {h0 h1 : hm_T} {r : Nat} {M : Nat → Nat} {st st1 : mT} (e : h1 r = some (.inr (2, mm_o M st1))) (f : ∀ b, b ≠ r → h1 b = mm_h dA h0 r M st b) (hs : st1.2 = st.2) : h1 = mm_h dA h0 r M st1 := by
  funext b
  by_cases q : b = r
  · subst q; rw [e, mm_hr]
  · rw [f b q]
    unfold mm_h
    rw [if_neg q, if_neg q]
    have : mm_e dA st = mm_e dA st1 := by
      funext k
      unfold mm_e
      rw [hs]
    rw [this]
theorem mm_hG {dA : Nat → ClassId} {h0 h1 : hm_T} {r : Nat} {M : Nat → Nat} {st st1 : mT} {k : Nat} (hM : mm_ok r M) (hk : k ∈ mm_A) (e : h1 (M k) = some (mm_e dA st1 k)) (f : ∀ b, b ≠ M k → h1 b = mm_h dA h0 r M st b) (hs : st1.1 = st.1) (he : ∀ j ∈ mm_A, j ≠ k → mm_e dA st1 j = mm_e dA st j) : h1 = mm_h dA h0 r M st1 := by
  funext b
  by_cases q : b = M k
  · subst q; rw [e, mm_ha hM hk]
  · rw [f b q]
    unfold mm_h
    by_cases qr : b = r
    · rw [if_pos qr, if_pos qr]
      have : mm_o M st = mm_o M st1 := by unfold mm_o; rw [hs]
      rw [this]
    · rw [if_neg qr, if_neg qr]
      cases e9 : mm_A.find? (fun j => M j == b) with
      | none => rfl
      | some j =>
        have h1 := List.find?_some e9
        have h2 := List.mem_of_find?_eq_some e9
        have h3 : M j = b := by simpa using h1
        have n9 : j ≠ k := fun e8 => q (by rw [← h3, e8])
        show some _ = some _
        rw [he j h2 n9]
theorem mm_a0 {dA : Nat → ClassId} {h0 : hm_T} {r : Nat} {M : Nat → Nat} {st : mT} (hM : mm_ok r M) : mm_h dA h0 r M st (M 0) = some (.inl (dA 0, 5161, .inl (st.2.1 0))) := mm_ha hM (by decide)
theorem mm_a1 {dA : Nat → ClassId} {h0 : hm_T} {r : Nat} {M : Nat → Nat} {st : mT} (hM : mm_ok r M) : mm_h dA h0 r M st (M 1) = some (.inl (dA 0, 5161, .inl (st.2.1 1))) := mm_ha hM (by decide)
theorem mm_a2 {dA : Nat → ClassId} {h0 : hm_T} {r : Nat} {M : Nat → Nat} {st : mT} (hM : mm_ok r M) : mm_h dA h0 r M st (M 2) = some (.inl (dA 0, 5120, .inl (st.2.1 2))) := mm_ha hM (by decide)
theorem mm_a3 {dA : Nat → ClassId} {h0 : hm_T} {r : Nat} {M : Nat → Nat} {st : mT} (hM : mm_ok r M) : mm_h dA h0 r M st (M 3) = some (.inl (dA 0, 40, .inl (st.2.1 3))) := mm_ha hM (by decide)
theorem mm_a6 {dA : Nat → ClassId} {h0 : hm_T} {r : Nat} {M : Nat → Nat} {st : mT} (hM : mm_ok r M) : mm_h dA h0 r M st (M 6) = some (.inl (dA 1, 120, .inl (st.2.1 6))) := mm_ha hM (by decide)
theorem mm_a15 {dA : Nat → ClassId} {h0 : hm_T} {r : Nat} {M : Nat → Nat} {st : mT} (hM : mm_ok r M) : mm_h dA h0 r M st (M 15) = some (.inl (dA 0, 8, .inl (st.2.1 15))) := mm_ha hM (by decide)
theorem mm_a16 {dA : Nat → ClassId} {h0 : hm_T} {r : Nat} {M : Nat → Nat} {st : mT} (hM : mm_ok r M) : mm_h dA h0 r M st (M 16) = some (.inl (dA 0, 8, .inl (st.2.1 16))) := mm_ha hM (by decide)
theorem mm_a17 {dA : Nat → ClassId} {h0 : hm_T} {r : Nat} {M : Nat → Nat} {st : mT} (hM : mm_ok r M) : mm_h dA h0 r M st (M 17) = some (.inl (dA 0, 8, .inl (st.2.1 17))) := mm_ha hM (by decide)
theorem mm_a20 {dA : Nat → ClassId} {h0 : hm_T} {r : Nat} {M : Nat → Nat} {st : mT} (hM : mm_ok r M) : mm_h dA h0 r M st (M 20) = some (.inl (dA 0, 30, .inl (st.2.1 20))) := mm_ha hM (by decide)
theorem mm_a21 {dA : Nat → ClassId} {h0 : hm_T} {r : Nat} {M : Nat → Nat} {st : mT} (hM : mm_ok r M) : mm_h dA h0 r M st (M 21) = some (.inl (dA 0, 30, .inl (st.2.1 21))) := mm_ha hM (by decide)
theorem mm_a22 {dA : Nat → ClassId} {h0 : hm_T} {r : Nat} {M : Nat → Nat} {st : mT} (hM : mm_ok r M) : mm_h dA h0 r M st (M 22) = some (.inl (dA 0, 40, .inl (st.2.1 22))) := mm_ha hM (by decide)
theorem mm_a25 {dA : Nat → ClassId} {h0 : hm_T} {r : Nat} {M : Nat → Nat} {st : mT} (hM : mm_ok r M) : mm_h dA h0 r M st (M 25) = some (.inl (dA 0, 130, .inl (st.2.1 25))) := mm_ha hM (by decide)
theorem mm_a26 {dA : Nat → ClassId} {h0 : hm_T} {r : Nat} {M : Nat → Nat} {st : mT} (hM : mm_ok r M) : mm_h dA h0 r M st (M 26) = some (.inl (dA 0, 130, .inl (st.2.1 26))) := mm_ha hM (by decide)
theorem mm_a27 {dA : Nat → ClassId} {h0 : hm_T} {r : Nat} {M : Nat → Nat} {st : mT} (hM : mm_ok r M) : mm_h dA h0 r M st (M 27) = some (.inl (dA 0, 130, .inl (st.2.1 27))) := mm_ha hM (by decide)
theorem mm_a28 {dA : Nat → ClassId} {h0 : hm_T} {r : Nat} {M : Nat → Nat} {st : mT} (hM : mm_ok r M) : mm_h dA h0 r M st (M 28) = some (.inl (dA 0, 130, .inl (st.2.1 28))) := mm_ha hM (by decide)
theorem mm_a29 {dA : Nat → ClassId} {h0 : hm_T} {r : Nat} {M : Nat → Nat} {st : mT} (hM : mm_ok r M) : mm_h dA h0 r M st (M 29) = some (.inl (dA 0, 130, .inl (st.2.1 29))) := mm_ha hM (by decide)
theorem mm_a30 {dA : Nat → ClassId} {h0 : hm_T} {r : Nat} {M : Nat → Nat} {st : mT} (hM : mm_ok r M) : mm_h dA h0 r M st (M 30) = some (.inl (dA 0, 130, .inl (st.2.1 30))) := mm_ha hM (by decide)
theorem mm_a32 {dA : Nat → ClassId} {h0 : hm_T} {r : Nat} {M : Nat → Nat} {st : mT} (hM : mm_ok r M) : mm_h dA h0 r M st (M 32) = some (.inl (dA 0, 65, .inl (st.2.1 32))) := mm_ha hM (by decide)
theorem mm_a33 {dA : Nat → ClassId} {h0 : hm_T} {r : Nat} {M : Nat → Nat} {st : mT} (hM : mm_ok r M) : mm_h dA h0 r M st (M 33) = some (.inl (dA 0, 65, .inl (st.2.1 33))) := mm_ha hM (by decide)
theorem mm_a34 {dA : Nat → ClassId} {h0 : hm_T} {r : Nat} {M : Nat → Nat} {st : mT} (hM : mm_ok r M) : mm_h dA h0 r M st (M 34) = some (.inl (dA 0, 65, .inl (st.2.1 34))) := mm_ha hM (by decide)
theorem mm_a35 {dA : Nat → ClassId} {h0 : hm_T} {r : Nat} {M : Nat → Nat} {st : mT} (hM : mm_ok r M) : mm_h dA h0 r M st (M 35) = some (.inl (dA 0, 65, .inl (st.2.1 35))) := mm_ha hM (by decide)
theorem mm_a36 {dA : Nat → ClassId} {h0 : hm_T} {r : Nat} {M : Nat → Nat} {st : mT} (hM : mm_ok r M) : mm_h dA h0 r M st (M 36) = some (.inl (dA 0, 65, .inl (st.2.1 36))) := mm_ha hM (by decide)
theorem mm_a37 {dA : Nat → ClassId} {h0 : hm_T} {r : Nat} {M : Nat → Nat} {st : mT} (hM : mm_ok r M) : mm_h dA h0 r M st (M 37) = some (.inl (dA 0, 65, .inl (st.2.1 37))) := mm_ha hM (by decide)
theorem mm_a38 {dA : Nat → ClassId} {h0 : hm_T} {r : Nat} {M : Nat → Nat} {st : mT} (hM : mm_ok r M) : mm_h dA h0 r M st (M 38) = some (.inl (dA 0, 65, .inl (st.2.1 38))) := mm_ha hM (by decide)
theorem mm_a39 {dA : Nat → ClassId} {h0 : hm_T} {r : Nat} {M : Nat → Nat} {st : mT} (hM : mm_ok r M) : mm_h dA h0 r M st (M 39) = some (.inl (dA 0, 65, .inl (st.2.1 39))) := mm_ha hM (by decide)
theorem mm_a40 {dA : Nat → ClassId} {h0 : hm_T} {r : Nat} {M : Nat → Nat} {st : mT} (hM : mm_ok r M) : mm_h dA h0 r M st (M 40) = some (.inl (dA 3, 65, .inl (st.2.1 40))) := mm_ha hM (by decide)
theorem mm_a41 {dA : Nat → ClassId} {h0 : hm_T} {r : Nat} {M : Nat → Nat} {st : mT} (hM : mm_ok r M) : mm_h dA h0 r M st (M 41) = some (.inl (dA 3, 65, .inl (st.2.1 41))) := mm_ha hM (by decide)
theorem mm_a42 {dA : Nat → ClassId} {h0 : hm_T} {r : Nat} {M : Nat → Nat} {st : mT} (hM : mm_ok r M) : mm_h dA h0 r M st (M 42) = some (.inl (dA 4, 65, .inr (.inl st.2.2))) := mm_ha hM (by decide)
theorem mm_a44 {dA : Nat → ClassId} {h0 : hm_T} {r : Nat} {M : Nat → Nat} {st : mT} (hM : mm_ok r M) : mm_h dA h0 r M st (M 44) = some (.inl (dA 0, 65, .inl (st.2.1 44))) := mm_ha hM (by decide)
theorem mm_a50 {dA : Nat → ClassId} {h0 : hm_T} {r : Nat} {M : Nat → Nat} {st : mT} (hM : mm_ok r M) : mm_h dA h0 r M st (M 50) = some (.inl (dA 0, 5, .inl (st.2.1 50))) := mm_ha hM (by decide)
theorem mm_a51 {dA : Nat → ClassId} {h0 : hm_T} {r : Nat} {M : Nat → Nat} {st : mT} (hM : mm_ok r M) : mm_h dA h0 r M st (M 51) = some (.inl (dA 0, 5, .inl (st.2.1 51))) := mm_ha hM (by decide)
theorem mm_a52 {dA : Nat → ClassId} {h0 : hm_T} {r : Nat} {M : Nat → Nat} {st : mT} (hM : mm_ok r M) : mm_h dA h0 r M st (M 52) = some (.inl (dA 0, 5, .inl (st.2.1 52))) := mm_ha hM (by decide)
theorem mm_a54 {dA : Nat → ClassId} {h0 : hm_T} {r : Nat} {M : Nat → Nat} {st : mT} (hM : mm_ok r M) : mm_h dA h0 r M st (M 54) = some (.inl (dA 0, 41, .inl (st.2.1 54))) := mm_ha hM (by decide)
theorem mm_a56 {dA : Nat → ClassId} {h0 : hm_T} {r : Nat} {M : Nat → Nat} {st : mT} (hM : mm_ok r M) : mm_h dA h0 r M st (M 56) = some (.inl (dA 0, 40, .inl (st.2.1 56))) := mm_ha hM (by decide)
theorem mm_eG {dA : Nat → ClassId} {st : mT} {k i : Nat} {v : Int32} : ∀ j ∈ mm_A, j ≠ k → mm_e dA (mm_G st k i v) j = mm_e dA st j := by
  intro j hj hn
  have e : (mm_G st k i v).2.1 j = st.2.1 j := by show (if j = k then _ else _) = _; rw [if_neg hn]
  have e2 : (mm_G st k i v).2.2 = st.2.2 := rfl
  unfold mm_e
  split <;> first | rw [e] | rw [e2]
theorem mm_eJ {dA : Nat → ClassId} {st : mT} {i : Nat} {v : Int64} : ∀ j ∈ mm_A, j ≠ 42 → mm_e dA (mm_J st i v) j = mm_e dA st j := by
  intro j hj hn
  unfold mm_e
  split <;> first | rfl | exact absurd rfl hn
/-- pure steps: a value kept, an index within, a truth value, a letter -/
def mm_lt {α β : Type} (x : α) (K : α → Option β) : Option β := K x
def mm_ld {β : Type} (G : Nat → Int32) (n : Nat) (i : Int32) (K : Int32 → Option β) : Option β := if i < 0 then none else if i.toNatClampNeg < n then K (G i.toNatClampNeg) else none
def mm_ldL {β : Type} (G : Nat → Int64) (n : Nat) (i : Int32) (K : Int64 → Option β) : Option β := if i < 0 then none else if i.toNatClampNeg < n then K (G i.toNatClampNeg) else none
def mm_ix {β : Type} (n : Nat) (i : Int32) (K : Nat → Option β) : Option β := if i < 0 then none else if i.toNatClampNeg < n then K i.toNatClampNeg else none
def mm_zc {β : Type} (v : Int32) (K : Option β) : Option β := if v = 0 then K else if v = 1 then K else none
def mm_cc {β : Type} (v : Int32) (K : Option β) : Option β := if (v.toUInt32 % 65536).toInt32 = v then K else none
def mm_cmp (x y : Int64) : Int32 := if x > y then 1 else if x = y then 0 else -1
def mF : Nat := 6000
theorem mm_lt_some {α β : Type} {x : α} {K : α → Option β} {r : β} (h : mm_lt x K = some r) : ∃ y, x = y ∧ K y = some r := ⟨x, rfl, h⟩
theorem mm_ld_some {β : Type} {G : Nat → Int32} {n : Nat} {i : Int32} {K : Int32 → Option β} {r : β} (h : mm_ld G n i K = some r) : ∃ x, vp_in i n ∧ G i.toNatClampNeg = x ∧ K x = some r := by
  unfold mm_ld at h
  by_cases h1 : i < 0
  · rw [if_pos h1] at h; cases h
  · rw [if_neg h1] at h
    by_cases h2 : i.toNatClampNeg < n
    · rw [if_pos h2] at h; exact ⟨_, fun q => q.elim h1 (fun q => absurd h2 (Nat.not_lt.mpr q)), rfl, h⟩
    · rw [if_neg h2] at h; cases h
theorem mm_ldL_some {β : Type} {G : Nat → Int64} {n : Nat} {i : Int32} {K : Int64 → Option β} {r : β} (h : mm_ldL G n i K = some r) : ∃ x, vp_in i n ∧ G i.toNatClampNeg = x ∧ K x = some r := by
  unfold mm_ldL at h
  by_cases h1 : i < 0
  · rw [if_pos h1] at h; cases h
  · rw [if_neg h1] at h
    by_cases h2 : i.toNatClampNeg < n
    · rw [if_pos h2] at h; exact ⟨_, fun q => q.elim h1 (fun q => absurd h2 (Nat.not_lt.mpr q)), rfl, h⟩
    · rw [if_neg h2] at h; cases h
theorem mm_ix_some {β : Type} {n : Nat} {i : Int32} {K : Nat → Option β} {r : β} (h : mm_ix n i K = some r) : vp_in i n ∧ K i.toNatClampNeg = some r := by
  unfold mm_ix at h
  by_cases h1 : i < 0
  · rw [if_pos h1] at h; cases h
  · rw [if_neg h1] at h
    by_cases h2 : i.toNatClampNeg < n
    · rw [if_pos h2] at h; exact ⟨fun q => q.elim h1 (fun q => absurd h2 (Nat.not_lt.mpr q)), h⟩
    · rw [if_neg h2] at h; cases h
theorem mm_zc_some {β : Type} {v : Int32} {K : Option β} {r : β} (h : mm_zc v K = some r) : (narrow .boolean (.int v) = .int v ∧ fits .boolean (.int v) = true) ∧ K = some r := by
  unfold mm_zc at h
  by_cases h1 : v = 0
  · rw [if_pos h1] at h; subst h1; exact ⟨⟨rfl, rfl⟩, h⟩
  · rw [if_neg h1] at h
    by_cases h2 : v = 1
    · rw [if_pos h2] at h; subst h2; exact ⟨⟨rfl, rfl⟩, h⟩
    · rw [if_neg h2] at h; cases h
theorem mm_cc_some {β : Type} {v : Int32} {K : Option β} {r : β} (h : mm_cc v K = some r) : narrow .char (.int v) = .int v ∧ K = some r := by
  unfold mm_cc at h
  by_cases h1 : (v.toUInt32 % 65536).toInt32 = v
  · rw [if_pos h1] at h; exact ⟨congrArg Value.int h1, h⟩
  · rw [if_neg h1] at h; cases h
theorem mm_bd {α β : Type} {f : Option α} {K : α → Option β} {r : β} (h : f.bind K = some r) : ∃ a, f = some a ∧ K a = some r := by
  cases f with
  | none => cases h
  | some a => exact ⟨a, rfl, h⟩
theorem mm_ti {x k : Int32} (h : ¬ x = k) : x.toInt ≠ k.toInt := fun q => h (Int32.toInt_inj.mp q)
theorem mm_fin {dA : Nat → ClassId} {h0 : hm_T} {r : Nat} {M : Nat → Nat} {z0 : hz_T} {v : Int32} {st : mT} {q : Int32 × mT} (h : some (v, st) = some q) : some (Value.int v) = some (.int q.1) ∧ mm_h dA h0 r M st = mm_h dA h0 r M q.2 ∧ z0 = z0 := by cases h; exact ⟨rfl, rfl, rfl⟩
theorem mm_finL {dA : Nat → ClassId} {h0 : hm_T} {r : Nat} {M : Nat → Nat} {z0 : hz_T} {v : Int64} {st : mT} {q : Int64 × mT} (h : some (v, st) = some q) : some (Value.long v) = some (.long q.1) ∧ mm_h dA h0 r M st = mm_h dA h0 r M q.2 ∧ z0 = z0 := by cases h; exact ⟨rfl, rfl, rfl⟩
theorem mm_finV {dA : Nat → ClassId} {h0 : hm_T} {r : Nat} {M : Nat → Nat} {z0 : hz_T} {st rst : mT} (h : some st = some rst) : (none : Option Value) = none ∧ mm_h dA h0 r M st = mm_h dA h0 r M rst ∧ z0 = z0 := by cases h; exact ⟨rfl, rfl, rfl⟩
section MMR
variable {p : Program} {l : Launch} {e : Env} {R : Room} {s s0 : State} {m : MethodId} {args : Array Value} {below : List Frame} {meth : Method} {c : Code} {H : Heap} {locs : List Loc} {cells slots : Nat} {Q : State → Prop}
variable {cc : ByteArray} {pc : Nat} {ls : Array Slot} {rest : List Value} {D : va_G} {h : hm_T} {z : hz_T} {a : Nat} {tys : List (ClassId × FieldType)} {y0 : MethodName} {n0 : Nat} {ret0 : Option FieldType} {A : Nat → Prop} {dA : Nat → ClassId} {h0 : hm_T} {r : Nat} {M : Nat → Nat} {st st1 : mT}
theorem mm_topL {x y : Int64} (h : x = y) (k : W p l e R s m args below meth c H locs cells slots Q (F0 m pc ls (.long y :: rest))) : W p l e R s m args below meth c H locs cells slots Q (F0 m pc ls (.long x :: rest)) := by
  subst h; exact k
theorem lv_lcmp (hexec : p.tables.exec = Jvm.exec) (hb : c.code = cc) {x y : Int64} (hdg : decode cc pc = .ok (.lcmp, 1))
    (k : W p l e R s m args below meth c H locs cells slots Q (F0 m (pc + 1) ls (.int (mm_cmp x y) :: rest))) : W p l e R s m args below meth c H locs cells slots Q (F0 m pc ls (.long y :: .long x :: rest)) := by
  intro T hT X
  obtain ⟨t, a, b⟩ := k T hT X
  refine ⟨t, ?_, b⟩
  unfold mm_cmp at a
  by_cases h1 : x > y
  · rw [if_pos h1] at a
    jvm_step X.here [X.here.top, hexec, hb, hdg, h1]
    exact a
  · rw [if_neg h1] at a
    by_cases h2 : x = y
    · rw [if_pos h2] at a
      jvm_step X.here [X.here.top, hexec, hb, hdg, h1]
      rw [if_pos h2]
      exact a
    · rw [if_neg h2] at a
      jvm_step X.here [X.here.top, hexec, hb, hdg, h1]
      rw [if_neg h2]
      exact a

theorem hm_zast (X : ms_X D tys s0 p s m args meth c A y0 cc n0 ret0) (I : hm_I D s0 s h z H locs) (t0 : Nat) {cA : ClassId} {n : Nat} {f : Nat → Int32} (ha : h a = some (.inl (cA, n, .inl f))) (ht : tys[t0]? = some (cA, .boolean)) {i x : Int32} (hin : vp_in i n) (hdg : decode cc pc = .ok (.bastore, 1))
    (kk : ∀ (h1 : hm_T) (H1 : Heap) (locs1 : List Loc), h1 a = some (.inl (cA, n, .inl (upd f i.toNatClampNeg (vp_nar .boolean x)))) → (∀ b, b ≠ a → h1 b = h b) → hm_I D s0 s h1 z H1 locs1 → W p l e R s m args below meth c H1 locs1 cells slots Q (F0 m (pc + 1) ls rest)) : W p l e R s m args below meth c H locs cells slots Q (F0 m pc ls (.int x :: .int i :: .ref a :: rest)) := by
  have hK := X.2.2.2.2.2.2.2.2.1
  refine W.zast X.1 X.2.1 (I.1 a _ ha) ((hK.2 t0 _ ht).1 n (fun j => .int (f j))) (fun q => by cases q) (by show ¬ (i < 0 ∨ (arrV _ _ _).slots.size ≤ _); rw [arrV_size]; exact hin) rfl rfl hdg fun H1 e z9 oq => ?_
  refine kk _ H1 _ hm_s (fun b hb => hm_n hb) (hm_set I ha ?_ z9 oq)
  show H1[a]? = some (vp_cell _ _)
  rw [e, vp_cell_i, vp_cell_i, arrV_store]
  congr 2
  funext q
  by_cases hq : q = i.toNatClampNeg
  · subst hq
    simp [updV, upd, vp_nar]
    rfl
  · simp [updV, upd, hq]
theorem hm_cast (X : ms_X D tys s0 p s m args meth c A y0 cc n0 ret0) (I : hm_I D s0 s h z H locs) (t0 : Nat) {cA : ClassId} {n : Nat} {f : Nat → Int32} (ha : h a = some (.inl (cA, n, .inl f))) (ht : tys[t0]? = some (cA, .char)) {i x : Int32} (hin : vp_in i n) (hdg : decode cc pc = .ok (.castore, 1))
    (kk : ∀ (h1 : hm_T) (H1 : Heap) (locs1 : List Loc), h1 a = some (.inl (cA, n, .inl (upd f i.toNatClampNeg (vp_nar .char x)))) → (∀ b, b ≠ a → h1 b = h b) → hm_I D s0 s h1 z H1 locs1 → W p l e R s m args below meth c H1 locs1 cells slots Q (F0 m (pc + 1) ls rest)) : W p l e R s m args below meth c H locs cells slots Q (F0 m pc ls (.int x :: .int i :: .ref a :: rest)) := by
  have hK := X.2.2.2.2.2.2.2.2.1
  refine W.cast X.1 X.2.1 (I.1 a _ ha) ((hK.2 t0 _ ht).1 n (fun j => .int (f j))) (fun q => by cases q) (by show ¬ (i < 0 ∨ (arrV _ _ _).slots.size ≤ _); rw [arrV_size]; exact hin) rfl rfl hdg fun H1 e z9 oq => ?_
  refine kk _ H1 _ hm_s (fun b hb => hm_n hb) (hm_set I ha ?_ z9 oq)
  show H1[a]? = some (vp_cell _ _)
  rw [e, vp_cell_i, vp_cell_i, arrV_store]
  congr 2
  funext q
  by_cases hq : q = i.toNatClampNeg
  · subst hq
    simp [updV, upd, vp_nar]
    rfl
  · simp [updV, upd, hq]
theorem hm_last (X : ms_X D tys s0 p s m args meth c A y0 cc n0 ret0) (I : hm_I D s0 s h z H locs) (t0 : Nat) {cA : ClassId} {n : Nat} {f : Nat → Int64} (ha : h a = some (.inl (cA, n, .inr (.inl f)))) (ht : tys[t0]? = some (cA, .long)) {i : Int32} {x : Int64} (hin : vp_in i n) (hdg : decode cc pc = .ok (.lastore, 1))
    (kk : ∀ (h1 : hm_T) (H1 : Heap) (locs1 : List Loc), h1 a = some (.inl (cA, n, .inr (.inl (vp_updL f i.toNatClampNeg x)))) → (∀ b, b ≠ a → h1 b = h b) → hm_I D s0 s h1 z H1 locs1 → W p l e R s m args below meth c H1 locs1 cells slots Q (F0 m (pc + 1) ls rest)) : W p l e R s m args below meth c H locs cells slots Q (F0 m pc ls (.long x :: .int i :: .ref a :: rest)) := by
  have hK := X.2.2.2.2.2.2.2.2.1
  refine W.last X.1 X.2.1 (I.1 a _ ha) ((hK.2 t0 _ ht).1 n (fun j => .long (f j))) (fun q => by cases q) (by show ¬ (i < 0 ∨ (arrV _ _ _).slots.size ≤ _); rw [arrV_size]; exact hin) rfl rfl hdg fun H1 e z9 oq => ?_
  refine kk _ H1 _ hm_s (fun b hb => hm_n hb) (hm_set I ha ?_ z9 oq)
  show H1[a]? = some (vp_cell _ _)
  rw [e, vp_cell_l, vp_cell_l, arrV_store]
  congr 2
  funext q
  by_cases hq : q = i.toNatClampNeg
  · subst hq
    simp [updV, vp_updL]
  · simp [updV, vp_updL, hq]
theorem lv_has.sub {nL : Nat} {lv lv2 : List (Nat × Value)} (hl : lv_has ls nL lv) (ix : List Nat) (he : ix.map (fun k => lv[k]?) = lv2.map some) : lv_has ls nL lv2 := by
  refine ⟨hl.1, hl.2.1, fun q hq => ?_⟩
  have h1 : some q ∈ lv2.map some := List.mem_map.mpr ⟨q, hq, rfl⟩
  rw [← he] at h1
  obtain ⟨k, -, h2⟩ := List.mem_map.mp h1
  exact hl.2.2 q (List.mem_of_getElem? h2)
theorem mm_iast {k : Nat} {i x : Int32} {cA : ClassId} {n : Nat} (X : ms_X D tys s0 p s m args meth c A y0 cc n0 ret0) (I : hm_I D s0 s (mm_h dA h0 r M st) z H locs) (hM : mm_ok r M) (hk : k ∈ mm_A) (t0 : Nat) (ha : ∀ st : mT, mm_e dA st k = .inl (cA, n, .inl (st.2.1 k))) (ht : tys[t0]? = some (cA, .int)) (hin : vp_in i n) (hs : mm_G st k i.toNatClampNeg x = st1) (hdg : decode cc pc = .ok (.iastore, 1))
    (kk : ∀ (H1 : Heap) (locs1 : List Loc), hm_I D s0 s (mm_h dA h0 r M st1) z H1 locs1 → W p l e R s m args below meth c H1 locs1 cells slots Q (F0 m (pc + 1) ls rest)) : W p l e R s m args below meth c H locs cells slots Q (F0 m pc ls (.int x :: .int i :: .ref (M k) :: rest)) := by
  refine hm_iast X I t0 (by rw [mm_ha hM hk, ha]) ht hin hdg (fun h1 H1 locs1 e9 f9 I9 => ?_)
  have e : h1 = mm_h dA h0 r M st1 := by
    subst hs
    refine mm_hG hM hk ?_ f9 rfl mm_eG
    rw [e9, ha]
    simp [mm_G]
  rw [e] at I9
  exact kk H1 locs1 I9
theorem mm_zast {k : Nat} {i x : Int32} {cA : ClassId} {n : Nat} (X : ms_X D tys s0 p s m args meth c A y0 cc n0 ret0) (I : hm_I D s0 s (mm_h dA h0 r M st) z H locs) (hM : mm_ok r M) (hk : k ∈ mm_A) (t0 : Nat) (ha : ∀ st : mT, mm_e dA st k = .inl (cA, n, .inl (st.2.1 k))) (ht : tys[t0]? = some (cA, .boolean)) (hin : vp_in i n) (hs : mm_G st k i.toNatClampNeg (vp_nar .boolean x) = st1) (hdg : decode cc pc = .ok (.bastore, 1))
    (kk : ∀ (H1 : Heap) (locs1 : List Loc), hm_I D s0 s (mm_h dA h0 r M st1) z H1 locs1 → W p l e R s m args below meth c H1 locs1 cells slots Q (F0 m (pc + 1) ls rest)) : W p l e R s m args below meth c H locs cells slots Q (F0 m pc ls (.int x :: .int i :: .ref (M k) :: rest)) := by
  refine hm_zast X I t0 (by rw [mm_ha hM hk, ha]) ht hin hdg (fun h1 H1 locs1 e9 f9 I9 => ?_)
  have e : h1 = mm_h dA h0 r M st1 := by
    subst hs
    refine mm_hG hM hk ?_ f9 rfl mm_eG
    rw [e9, ha]
    simp [mm_G]
  rw [e] at I9
  exact kk H1 locs1 I9
theorem mm_cast {k : Nat} {i x : Int32} {cA : ClassId} {n : Nat} (X : ms_X D tys s0 p s m args meth c A y0 cc n0 ret0) (I : hm_I D s0 s (mm_h dA h0 r M st) z H locs) (hM : mm_ok r M) (hk : k ∈ mm_A) (t0 : Nat) (ha : ∀ st : mT, mm_e dA st k = .inl (cA, n, .inl (st.2.1 k))) (ht : tys[t0]? = some (cA, .char)) (hin : vp_in i n) (hs : mm_G st k i.toNatClampNeg (vp_nar .char x) = st1) (hdg : decode cc pc = .ok (.castore, 1))
    (kk : ∀ (H1 : Heap) (locs1 : List Loc), hm_I D s0 s (mm_h dA h0 r M st1) z H1 locs1 → W p l e R s m args below meth c H1 locs1 cells slots Q (F0 m (pc + 1) ls rest)) : W p l e R s m args below meth c H locs cells slots Q (F0 m pc ls (.int x :: .int i :: .ref (M k) :: rest)) := by
  refine hm_cast X I t0 (by rw [mm_ha hM hk, ha]) ht hin hdg (fun h1 H1 locs1 e9 f9 I9 => ?_)
  have e : h1 = mm_h dA h0 r M st1 := by
    subst hs
    refine mm_hG hM hk ?_ f9 rfl mm_eG
    rw [e9, ha]
    simp [mm_G]
  rw [e] at I9
  exact kk H1 locs1 I9
theorem mm_last {i : Int32} {x : Int64} (X : ms_X D tys s0 p s m args meth c A y0 cc n0 ret0) (I : hm_I D s0 s (mm_h dA h0 r M st) z H locs) (hM : mm_ok r M) (t0 : Nat) (ht : tys[t0]? = some (dA 4, .long)) (hin : vp_in i 65) (hs : mm_J st i.toNatClampNeg x = st1) (hdg : decode cc pc = .ok (.lastore, 1))
    (kk : ∀ (H1 : Heap) (locs1 : List Loc), hm_I D s0 s (mm_h dA h0 r M st1) z H1 locs1 → W p l e R s m args below meth c H1 locs1 cells slots Q (F0 m (pc + 1) ls rest)) : W p l e R s m args below meth c H locs cells slots Q (F0 m pc ls (.long x :: .int i :: .ref (M 42) :: rest)) := by
  refine hm_last X I t0 (mm_a42 hM) ht hin hdg (fun h1 H1 locs1 e9 f9 I9 => ?_)
  have e : h1 = mm_h dA h0 r M st1 := by
    subst hs
    exact mm_hG (k := 42) hM (by decide) e9 f9 rfl mm_eJ
  rw [e] at I9
  exact kk H1 locs1 I9
theorem mm_put {index k : Nat} {ty : FieldType} {v : Int32} (X : ms_X D tys s0 p s m args meth c A y0 cc n0 ret0) (I : hm_I D s0 s (mm_h dA h0 r M st) z H locs) (hk : k < 60) (hlink : Cond.fieldLink y0.cls index "MarkupStoreModel" (kT2 k).2.1 (kT2 k).2.2.1 ∈ ms_tb) (href : (kT2 k).1 = "MarkupStoreModel") (hfin : (kT2 k).2.2.2 = false) (hd : parseFieldDescriptor (kT2 k).2.2.1 = some ty) (hn : narrow ty (.int v) = .int v ∧ fits ty (.int v) = true) (he : (mm_o M st).set k (.int v) = mm_o M (mm_F st k v)) (hs : mm_F st k v = st1) (hdg : decode cc pc = .ok (.putfield index, 3))
    (kk : ∀ (H1 : Heap) (locs1 : List Loc), hm_I D s0 s (mm_h dA h0 r M st1) z H1 locs1 → W p l e R s m args below meth c H1 locs1 cells slots Q (F0 m (pc + 3) ls rest)) : W p l e R s m args below meth c H locs cells slots Q (F0 m pc ls (.int v :: .ref r :: rest)) := by
  refine hm_put (ci := 2) (v := .int v) (ty := ty) (C := kR2) (T := kT2) (N := 60) X I ku2 kt2 kp2 kn2 mm_hr rfl k hk hlink (fun x h => by rw [href] at h; exact h) hfin hd hn.1 hn.2 (by show k < 60; exact hk) hdg (fun h1 H1 locs1 e9 f9 I9 => ?_)
  have e : h1 = mm_h dA h0 r M st1 := by
    subst hs
    exact mm_hF (by rw [e9, he]) f9 rfl
  rw [e] at I9
  exact kk H1 locs1 I9
end MMR
