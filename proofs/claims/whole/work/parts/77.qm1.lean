-- the reference reads: what its small methods do
def mq {α : Type} (o : Option α) (Q : α → Prop) : Prop := ∃ a, o = some a ∧ Q a
theorem mq_some {α : Type} {a : α} {Q : α → Prop} (h : Q a) : mq (some a) Q := ⟨a, rfl, h⟩
theorem mq_eq {α : Type} {o : Option α} {a : α} {Q : α → Prop} (e : o = some a) (h : Q a) : mq o Q := ⟨a, e, h⟩
theorem mq_bind {α β : Type} {o : Option α} {f : α → Option β} {Q : β → Prop} (h : mq o (fun a => mq (f a) Q)) : mq (o.bind f) Q := by
  obtain ⟨a, e, b, e2, h2⟩ := h
  exact ⟨b, by rw [e]; exact e2, h2⟩
theorem mq_b {α β : Type} {o : Option α} {a : α} {f : α → Option β} {Q : β → Prop} (e : o = some a) (h : mq (f a) Q) : mq (o.bind f) Q := mq_bind (mq_eq e h)
theorem mq_yes {α : Type} {c : Prop} [Decidable c] {a b : Option α} {Q : α → Prop} (hc : c) (h : mq a Q) : mq (if c then a else b) Q := by rw [if_pos hc]; exact h
theorem mq_no {α : Type} {c : Prop} [Decidable c] {a b : Option α} {Q : α → Prop} (hc : ¬ c) (h : mq b Q) : mq (if c then a else b) Q := by rw [if_neg hc]; exact h
theorem mq_lt {α β : Type} {x : α} {K : α → Option β} {Q : β → Prop} (h : mq (K x) Q) : mq (mm_lt x K) Q := h
theorem mq_ld {β : Type} {G : Nat → Int32} {n i : Nat} {K : Int32 → Option β} {Q : β → Prop} (hi : i < n) (hn : n < 2 ^ 31) (h : mq (K (G i)) Q) : mq (mm_ld G n (nI i) K) Q := by rw [mp_ld hi hn]; exact h
theorem mq_ix {β : Type} {n i : Nat} {K : Nat → Option β} {Q : β → Prop} (hi : i < n) (hn : n < 2 ^ 31) (h : mq (K i) Q) : mq (mm_ix n (nI i) K) Q := by
  unfold mm_ix
  rw [if_neg (nI_pos (by omega)), nI_clamp (by omega), if_pos hi]
  exact h
theorem fF_s {st : mT} {k : Nat} {v : Int32} : (mm_F st k v).1 k = v := upd_s
theorem fF_n {st : mT} {k j : Nat} {v : Int32} (h : j ≠ k) : (mm_F st k v).1 j = st.1 j := upd_n h
theorem fG_s {st : mT} {a i : Nat} {v : Int32} : (mm_G st a i v).2.1 a i = v := by show (if a = a then upd (st.2.1 a) i v else st.2.1 a) i = v; rw [if_pos rfl, upd_s]
theorem fG_i {st : mT} {a i j : Nat} {v : Int32} (h : j ≠ i) : (mm_G st a i v).2.1 a j = st.2.1 a j := by show (if a = a then upd (st.2.1 a) i v else st.2.1 a) j = _; rw [if_pos rfl, upd_n h]
theorem fG_n {st : mT} {a b i : Nat} {v : Int32} (h : b ≠ a) : (mm_G st a i v).2.1 b = st.2.1 b := by show (if b = a then upd (st.2.1 a) i v else st.2.1 b) = _; rw [if_neg h]
/-- what reading leaves as it was -/
def mfld (k : Nat) : Prop := k = 8 ∨ k = 9 ∨ k = 10 ∨ k = 11 ∨ k = 12 ∨ k = 13 ∨ k = 14 ∨ k = 18 ∨ k = 19
def marr (a : Nat) : Prop := a = 2 ∨ a = 15 ∨ a = 16 ∨ a = 17 ∨ a = 20 ∨ a = 21
def mFr (st0 st : mT) : Prop := (∀ k, ¬ mfld k → st.1 k = st0.1 k) ∧ (∀ a, ¬ marr a → st.2.1 a = st0.2.1 a) ∧ st.2.2 = st0.2.2
theorem mFr.refl {st : mT} : mFr st st := ⟨fun _ _ => rfl, fun _ _ => rfl, rfl⟩
theorem mFr.trans {a b c : mT} (h : mFr a b) (g : mFr b c) : mFr a c := ⟨fun k hk => (g.1 k hk).trans (h.1 k hk), fun k hk => (g.2.1 k hk).trans (h.2.1 k hk), g.2.2.trans h.2.2⟩
theorem mFr.F {st0 st : mT} {k : Nat} {v : Int32} (h : mFr st0 st) (hk : mfld k) : mFr st0 (mm_F st k v) := ⟨fun j hj => by rw [fF_n (fun w => hj (by rw [w]; exact hk))]; exact h.1 j hj, h.2.1, h.2.2⟩
theorem mFr.G {st0 st : mT} {a i : Nat} {v : Int32} (h : mFr st0 st) (ha : marr a) : mFr st0 (mm_G st a i v) := ⟨h.1, fun b hb => by rw [fG_n (fun w => hb (by rw [w]; exact ha))]; exact h.2.1 b hb, h.2.2⟩
theorem mFr.buf {st0 st : mT} {xs : List Nat} (h : mFr st0 st) (b : md_buf st0 xs) : md_buf st xs := by
  obtain ⟨b1, b2, b3⟩ := b
  refine ⟨by rw [h.1 7 (fun w => by unfold mfld at w; omega)]; exact b1, ?_, b3⟩
  rw [h.2.1 6 (fun w => by unfold marr at w; omega)]
  exact b2
section QM1
variable {st : mT} {xs : List Nat}
theorem rm_err1 {k : Int32} (h : 0 ≤ st.1 9) : g_error k st = some st := by unfold g_error; rw [if_pos h]
theorem rm_err (b : md_buf st xs) {k : Nat} (h : st.1 9 = -1) (hk : k ≤ xs.length) : g_error (nI k) st = some (mm_F st 9 (nI k)) := by
  have hl := b.2.2.1
  unfold g_error g_error_24 mm_lt
  rw [if_neg (by rw [h]; decide), b.1]
  by_cases q : xs.length ≤ k
  · rw [if_pos (nI_le q (by omega)), show xs.length = k by omega]
  · rw [if_neg (nI_ge (by omega) (by omega))]
theorem rm_must1 (b : md_buf st xs) {k : Nat} {c : Int32} (hk : k < 2 ^ 31) (h : 0 ≤ st.1 9) : g_must (nI k) c st = some (0, st) := by
  unfold g_must g_must_14
  rw [mp_look b hk, Option.bind_some]
  by_cases q : nI (xs.getD k 0) = c
  · rw [if_pos q, if_pos h]
  · rw [if_neg q, rm_err1 h, Option.bind_some, if_pos h]
theorem rm_must (b : md_buf st xs) {k c : Nat} (hc : c < 128) (h : st.1 9 = -1) (hk : k ≤ xs.length) : g_must (nI k) (nI c) st = some (if xs.getD k 0 = c then (1, st) else (0, mm_F st 9 (nI k))) := by
  have hl := b.2.2.1
  have hx := getD_lt b.2.2.2 k
  unfold g_must g_must_14
  rw [mp_look b (by omega), Option.bind_some]
  by_cases q : xs.getD k 0 = c
  · rw [if_pos (by rw [q]), if_pos q, if_neg (by rw [h]; decide)]
  · rw [if_neg (fun w => q ((nI_eq (by omega) (by omega)).mp w)), if_neg q, rm_err b h hk, Option.bind_some, if_pos]
    rw [fF_s]
    exact nI_le (Nat.zero_le _) (by omega)
theorem rm_word (b : md_buf st xs) {k c1 c2 c3 c4 : Nat} (hk : k < 2 ^ 30) (h1 : c1 < 128) (h2 : c2 < 128) (h3 : c3 < 128) (h4 : c4 < 128) : g_word (nI k) (nI c1) (nI c2) (nI c3) (nI c4) st = some (if xs.getD k 0 = c1 ∧ xs.getD (k + 1) 0 = c2 ∧ xs.getD (k + 2) 0 = c3 ∧ (c4 = 0 ∨ xs.getD (k + 3) 0 = c4) then 1 else 0, st) := by
  have e2 : nI k + 1 = nI (k + 1) := nI_1 _
  have e3 : nI k + 2 = nI (k + 2) := by rw [show (2 : Int32) = nI 2 from rfl, nI_add]
  have e4 : nI k + 3 = nI (k + 3) := by rw [show (3 : Int32) = nI 3 from rfl, nI_add]
  have l0 := getD_lt b.2.2.2 k
  have l1 := getD_lt b.2.2.2 (k + 1)
  have l2 := getD_lt b.2.2.2 (k + 2)
  have l3 := getD_lt b.2.2.2 (k + 3)
  unfold g_word g_word_49 g_word_53
  rw [mp_look b (by omega), Option.bind_some]
  by_cases q1 : xs.getD k 0 = c1
  · rw [if_pos (by rw [q1]), e2, mp_look b (by omega), Option.bind_some]
    by_cases q2 : xs.getD (k + 1) 0 = c2
    · rw [if_pos (by rw [q2]), e3, mp_look b (by omega), Option.bind_some]
      by_cases q3 : xs.getD (k + 2) 0 = c3
      · rw [if_pos (by rw [q3])]
        by_cases q4 : c4 = 0
        · rw [if_pos (by rw [q4]; rfl), if_pos ⟨q1, q2, q3, Or.inl q4⟩]
        · rw [if_neg (show ¬ nI c4 = 0 from fun w => q4 ((nI_eq (b := 0) (by omega) (by decide)).mp w)), e4, mp_look b (by omega), Option.bind_some]
          by_cases q5 : xs.getD (k + 3) 0 = c4
          · rw [if_pos (by rw [q5]), if_pos ⟨q1, q2, q3, Or.inr q5⟩]
          · rw [if_neg (fun w => q5 ((nI_eq (by omega) (by omega)).mp w)), if_neg (fun w => w.2.2.2.elim q4 q5)]
      · rw [if_neg (fun w => q3 ((nI_eq (by omega) (by omega)).mp w)), if_neg (fun w => q3 w.2.2.1)]
    · rw [if_neg (fun w => q2 ((nI_eq (by omega) (by omega)).mp w)), if_neg (fun w => q2 w.2.1)]
  · rw [if_neg (fun w => q1 ((nI_eq (by omega) (by omega)).mp w)), if_neg (fun w => q1 w.1)]
end QM1
-- the reference reads: entities, names, nodes, signs
theorem take_iff {xs : List Nat} : ∀ (ws : List Nat) (p : Nat), p + ws.length ≤ xs.length → ((xs.drop p).take ws.length = ws ↔ ∀ i, i < ws.length → xs.getD (p + i) 0 = ws.getD i 0) := by
  intro ws p hp
  constructor
  · intro e i hi
    have : ((xs.drop p).take ws.length).getD i 0 = ws.getD i 0 := by rw [e]
    rw [← this, List.getD_eq_getElem?_getD, List.getD_eq_getElem?_getD, List.getElem?_take, if_pos hi, List.getElem?_drop]
  · intro h
    refine List.ext_getElem (by rw [List.length_take, List.length_drop]; omega) (fun i h1 h2 => ?_)
    have := h i h2
    rw [List.getD_eq_getElem?_getD, List.getD_eq_getElem?_getD, List.getElem?_eq_getElem h2, List.getElem?_eq_getElem (by omega)] at this
    rw [List.getElem_take, List.getElem_drop]
    simpa using this
theorem a_sk_iff {xs ws : List Nat} {p : Nat} : a_sk xs p ws = true ↔ xs.getD (p + ws.length) 0 = 59 ∧ ∀ i, i < ws.length → xs.getD (p + i) 0 = ws.getD i 0 := by
  unfold a_sk
  rw [decide_eq_true_iff]
  constructor
  · rintro ⟨h1, h2, h3⟩
    exact ⟨h2, (take_iff ws p (by omega)).mp h3⟩
  · rintro ⟨h1, h2⟩
    have := getD_pos h1 (by decide)
    exact ⟨this, h1, (take_iff ws p (by omega)).mpr h2⟩
theorem all3 {xs : List Nat} {p a b c : Nat} : (∀ i, i < [a, b, c].length → xs.getD (p + i) 0 = [a, b, c].getD i 0) ↔ xs.getD p 0 = a ∧ xs.getD (p + 1) 0 = b ∧ xs.getD (p + 2) 0 = c := by
  constructor
  · intro h; exact ⟨h 0 (by simp), h 1 (by simp), h 2 (by simp)⟩
  · rintro ⟨h0, h1, h2⟩ i hi
    match i, hi with
    | 0, _ => exact h0
    | 1, _ => exact h1
    | 2, _ => exact h2
theorem all4 {xs : List Nat} {p a b c d : Nat} : (∀ i, i < [a, b, c, d].length → xs.getD (p + i) 0 = [a, b, c, d].getD i 0) ↔ xs.getD p 0 = a ∧ xs.getD (p + 1) 0 = b ∧ xs.getD (p + 2) 0 = c ∧ xs.getD (p + 3) 0 = d := by
  constructor
  · intro h; exact ⟨h 0 (by simp), h 1 (by simp), h 2 (by simp), h 3 (by simp)⟩
  · rintro ⟨h0, h1, h2, h3⟩ i hi
    match i, hi with
    | 0, _ => exact h0
    | 1, _ => exact h1
    | 2, _ => exact h2
    | 3, _ => exact h3
theorem all5 {xs : List Nat} {p a b c d e : Nat} : (∀ i, i < [a, b, c, d, e].length → xs.getD (p + i) 0 = [a, b, c, d, e].getD i 0) ↔ xs.getD p 0 = a ∧ xs.getD (p + 1) 0 = b ∧ xs.getD (p + 2) 0 = c ∧ xs.getD (p + 3) 0 = d ∧ xs.getD (p + 4) 0 = e := by
  constructor
  · intro h; exact ⟨h 0 (by simp), h 1 (by simp), h 2 (by simp), h 3 (by simp), h 4 (by simp)⟩
  · rintro ⟨h0, h1, h2, h3, h4⟩ i hi
    match i, hi with
    | 0, _ => exact h0
    | 1, _ => exact h1
    | 2, _ => exact h2
    | 3, _ => exact h3
    | 4, _ => exact h4
/-- what an entity's reading gives -/
def entR (xs : List Nat) (k : Nat) : Int32 × Int32 × Int32 := match a_ent xs k with
  | some (c, q) => (1, nI c, nI (q + 1 - k))
  | none => (0, 39, 0)
section QM2
variable {st : mT} {xs : List Nat}
theorem rm_ent (b : md_buf st xs) {k : Nat} (hk : k < 2 ^ 29) (h0 : xs.getD k 0 = 38) : g_isEntity (nI k) st = some ((entR xs k).1, mm_F (mm_F st 18 (entR xs k).2.1) 19 (entR xs k).2.2) := by
  have e1 : nI k + 1 = nI (k + 1) := nI_1 _
  have e5 : nI k + 5 = nI (k + 5) := by rw [show (5 : Int32) = nI 5 from rfl, nI_add]
  have l5 := getD_lt b.2.2.2 (k + 5)
  have s1 : a_sk xs k [38, 108, 116] = true ↔ (xs.getD (k + 1) 0 = 108 ∧ xs.getD (k + 1 + 1) 0 = 116 ∧ xs.getD (k + 1 + 2) 0 = 59 ∧ (0 = 0 ∨ xs.getD (k + 1 + 3) 0 = 0)) := by
    rw [a_sk_iff, all3]
    exact ⟨fun w => ⟨w.2.2.1, w.2.2.2, w.1, Or.inl rfl⟩, fun w => ⟨w.2.2.1, h0, w.1, w.2.1⟩⟩
  have s2 : a_sk xs k [38, 103, 116] = true ↔ (xs.getD (k + 1) 0 = 103 ∧ xs.getD (k + 1 + 1) 0 = 116 ∧ xs.getD (k + 1 + 2) 0 = 59 ∧ (0 = 0 ∨ xs.getD (k + 1 + 3) 0 = 0)) := by
    rw [a_sk_iff, all3]
    exact ⟨fun w => ⟨w.2.2.1, w.2.2.2, w.1, Or.inl rfl⟩, fun w => ⟨w.2.2.1, h0, w.1, w.2.1⟩⟩
  have s3 : a_sk xs k [38, 97, 109, 112] = true ↔ (xs.getD (k + 1) 0 = 97 ∧ xs.getD (k + 1 + 1) 0 = 109 ∧ xs.getD (k + 1 + 2) 0 = 112 ∧ (59 = 0 ∨ xs.getD (k + 1 + 3) 0 = 59)) := by
    rw [a_sk_iff, all4]
    exact ⟨fun w => ⟨w.2.2.1, w.2.2.2.1, w.2.2.2.2, Or.inr w.1⟩, fun w => ⟨w.2.2.2.resolve_left (by decide), h0, w.1, w.2.1, w.2.2.1⟩⟩
  have s4 : a_sk xs k [38, 113, 117, 111, 116] = true ↔ ((xs.getD (k + 1) 0 = 113 ∧ xs.getD (k + 1 + 1) 0 = 117 ∧ xs.getD (k + 1 + 2) 0 = 111 ∧ (116 = 0 ∨ xs.getD (k + 1 + 3) 0 = 116)) ∧ xs.getD (k + 5) 0 = 59) := by
    rw [a_sk_iff, all5]
    exact ⟨fun w => ⟨⟨w.2.2.1, w.2.2.2.1, w.2.2.2.2.1, Or.inr w.2.2.2.2.2⟩, w.1⟩, fun w => ⟨w.2, h0, w.1.1, w.1.2.1, w.1.2.2.1, w.1.2.2.2.resolve_left (by decide)⟩⟩
  have s5 : a_sk xs k [38, 97, 112, 111, 115] = true ↔ ((xs.getD (k + 1) 0 = 97 ∧ xs.getD (k + 1 + 1) 0 = 112 ∧ xs.getD (k + 1 + 2) 0 = 111 ∧ (115 = 0 ∨ xs.getD (k + 1 + 3) 0 = 115)) ∧ xs.getD (k + 5) 0 = 59) := by
    rw [a_sk_iff, all5]
    exact ⟨fun w => ⟨⟨w.2.2.1, w.2.2.2.1, w.2.2.2.2.1, Or.inr w.2.2.2.2.2⟩, w.1⟩, fun w => ⟨w.2, h0, w.1.1, w.1.2.1, w.1.2.2.1, w.1.2.2.2.resolve_left (by decide)⟩⟩
  have w1 := rm_word b (k := k + 1) (c1 := 108) (c2 := 116) (c3 := 59) (c4 := 0) (by omega) (by decide) (by decide) (by decide) (by decide)
  have w2 := rm_word b (k := k + 1) (c1 := 103) (c2 := 116) (c3 := 59) (c4 := 0) (by omega) (by decide) (by decide) (by decide) (by decide)
  have w3 := rm_word b (k := k + 1) (c1 := 97) (c2 := 109) (c3 := 112) (c4 := 59) (by omega) (by decide) (by decide) (by decide) (by decide)
  have w4 := rm_word b (k := k + 1) (c1 := 113) (c2 := 117) (c3 := 111) (c4 := 116) (by omega) (by decide) (by decide) (by decide) (by decide)
  have w5 := rm_word b (k := k + 1) (c1 := 97) (c2 := 112) (c3 := 111) (c4 := 115) (by omega) (by decide) (by decide) (by decide) (by decide)
  change g_word (nI (k + 1)) 108 116 59 0 st = _ at w1
  change g_word (nI (k + 1)) 103 116 59 0 st = _ at w2
  change g_word (nI (k + 1)) 97 109 112 59 st = _ at w3
  change g_word (nI (k + 1)) 113 117 111 116 st = _ at w4
  change g_word (nI (k + 1)) 97 112 111 115 st = _ at w5
  have h59 : nI (xs.getD (k + 5) 0) = 59 ↔ xs.getD (k + 5) 0 = 59 := nI_eq (b := 59) (by omega) (by decide)
  have lk := mp_look b (k := k + 5) (by omega)
  have cv : ∀ {P : Prop} [Decidable P] {r : Bool}, (r = true ↔ P) → (if P then (1 : Int32) else 0) = if r = true then 1 else 0 := fun {P} _ {r} w => by
    by_cases q : P
    · rw [if_pos q, if_pos (w.mpr q)]
    · rw [if_neg q, if_neg (fun k => q (w.mp k))]
  rw [cv s1] at w1
  rw [cv s2] at w2
  rw [cv s3] at w3
  rw [cv (r := decide (xs.getD (k + 1) 0 = 113 ∧ xs.getD (k + 1 + 1) 0 = 117 ∧ xs.getD (k + 1 + 2) 0 = 111 ∧ (116 = 0 ∨ xs.getD (k + 1 + 3) 0 = 116))) decide_eq_true_iff] at w4
  rw [cv (r := decide (xs.getD (k + 1) 0 = 97 ∧ xs.getD (k + 1 + 1) 0 = 112 ∧ xs.getD (k + 1 + 2) 0 = 111 ∧ (115 = 0 ∨ xs.getD (k + 1 + 3) 0 = 115))) decide_eq_true_iff] at w5
  have s4' : a_sk xs k [38, 113, 117, 111, 116] = (decide (xs.getD (k + 1) 0 = 113 ∧ xs.getD (k + 1 + 1) 0 = 117 ∧ xs.getD (k + 1 + 2) 0 = 111 ∧ (116 = 0 ∨ xs.getD (k + 1 + 3) 0 = 116)) && decide (xs.getD (k + 5) 0 = 59)) := by
    rw [Bool.eq_iff_iff, s4, Bool.and_eq_true, decide_eq_true_iff, decide_eq_true_iff]
  have s5' : a_sk xs k [38, 97, 112, 111, 115] = (decide (xs.getD (k + 1) 0 = 97 ∧ xs.getD (k + 1 + 1) 0 = 112 ∧ xs.getD (k + 1 + 2) 0 = 111 ∧ (115 = 0 ∨ xs.getD (k + 1 + 3) 0 = 115)) && decide (xs.getD (k + 5) 0 = 59)) := by
    rw [Bool.eq_iff_iff, s5, Bool.and_eq_true, decide_eq_true_iff, decide_eq_true_iff]
  unfold entR a_ent
  rw [s4', s5']
  generalize a_sk xs k [38, 108, 116] = r1 at *
  generalize a_sk xs k [38, 103, 116] = r2 at *
  generalize a_sk xs k [38, 97, 109, 112] = r3 at *
  generalize decide (xs.getD (k + 1) 0 = 113 ∧ xs.getD (k + 1 + 1) 0 = 117 ∧ xs.getD (k + 1 + 2) 0 = 111 ∧ (116 = 0 ∨ xs.getD (k + 1 + 3) 0 = 116)) = r4 at *
  generalize decide (xs.getD (k + 1) 0 = 97 ∧ xs.getD (k + 1 + 1) 0 = 112 ∧ xs.getD (k + 1 + 2) 0 = 111 ∧ (115 = 0 ∨ xs.getD (k + 1 + 3) 0 = 115)) = r5 at *
  have hf : (nI (xs.getD (k + 5) 0) = 59) = (decide (xs.getD (k + 5) 0 = 59) = true) := propext (h59.trans decide_eq_true_iff.symm)
  have n4 : nI (k + 3 + 1 - k) = 4 := by rw [show k + 3 + 1 - k = 4 by omega]; rfl
  have n5 : nI (k + 4 + 1 - k) = 5 := by rw [show k + 4 + 1 - k = 5 by omega]; rfl
  have n6 : nI (k + 5 + 1 - k) = 6 := by rw [show k + 5 + 1 - k = 6 by omega]; rfl
  have c60 : nI 60 = 60 := rfl
  have c62 : nI 62 = 62 := rfl
  have c38 : nI 38 = 38 := rfl
  have c34 : nI 34 = 34 := rfl
  have c39 : nI 39 = 39 := rfl
  unfold g_isEntity g_isEntity_81 g_isEntity_82 g_isEntity_118 g_isEntity_119 g_isEntity_162 g_isEntity_174 g_isEntity_197 g_isEntity_203 mm_lt
  simp only [e1, e5, w1, w2, w3, w4, w5, lk, hf, Option.bind_some]
  generalize decide (xs.getD (k + 5) 0 = 59) = f at *
  cases r1 <;> cases r2 <;> cases r3 <;> cases r4 <;> cases r5 <;> cases f <;> simp [fF_s, n4, n5, n6, c60, c62, c38, c34, c39] <;> decide
end QM2
-- the reference reads: no name twice
/-- where the names of the attributes so far stand -/
def nmR (st : mT) (xs : List Nat) (att : List (List Nat × List Nat)) : Prop := ∀ a, a < att.length → ∃ fr n, st.2.1 20 a = nI fr ∧ st.2.1 21 a = nI n ∧ fr + n ≤ xs.length ∧ (att.getD a ([], [])).1 = (xs.drop fr).take n
theorem take_eq {xs : List Nat} {p q n : Nat} (hp : p + n ≤ xs.length) (hq : q + n ≤ xs.length) : (xs.drop p).take n = (xs.drop q).take n ↔ ∀ j, j < n → xs.getD (p + j) 0 = xs.getD (q + j) 0 := by
  have hl : ((xs.drop q).take n).length = n := by rw [List.length_take, List.length_drop]; omega
  have := take_iff (xs := xs) ((xs.drop q).take n) p (by rw [hl]; exact hp)
  rw [hl] at this
  rw [this]
  refine forall_congr' (fun j => forall_congr' (fun hj => ?_))
  have e : ((xs.drop q).take n).getD j 0 = xs.getD (q + j) 0 := by rw [List.getD_eq_getElem?_getD, List.getElem?_take, if_pos hj, List.getElem?_drop, ← List.getD_eq_getElem?_getD]
  rw [e]
section QM3
variable {st : mT} {xs : List Nat}
theorem rm_tw30 (b : md_buf st xs) {k3 : Int32 → Int32 → Int32 → Int32 → mT → Option (Int32 × mT)} {num fr a f2 n : Nat} (ha : a < 30) (hfr : st.2.1 20 a = nI fr) (hf : fr + n < 2 ^ 30) (hf2 : f2 + n < 2 ^ 30) : ∀ (r fu k : Nat), k + r = n → r < fu → ((∀ j, k ≤ j → j < n → xs.getD (fr + j) 0 = xs.getD (f2 + j) 0) → g_twice_30 k3 fu (nI num) (nI f2) (nI n) (nI a) 1 (nI k) st = some (1, st)) ∧ ((¬ ∀ j, k ≤ j → j < n → xs.getD (fr + j) 0 = xs.getD (f2 + j) 0) → g_twice_30 k3 fu (nI num) (nI f2) (nI n) (nI a) 1 (nI k) st = k3 (nI num) (nI f2) (nI n) (nI a + 1) st) := by
  intro r
  induction r with
  | zero =>
    intro fu k hk hfu
    obtain ⟨fu, rfl⟩ : ∃ f, fu = f + 1 := ⟨fu - 1, by omega⟩
    unfold g_twice_30 g_twice_79
    rw [if_pos (nI_le (by omega) (by omega)), if_neg (by decide)]
    exact ⟨fun _ => rfl, fun w => absurd (fun j h1 h2 => by omega) w⟩
  | succ r ih =>
    intro fu k hk hfu
    obtain ⟨fu, rfl⟩ : ∃ f, fu = f + 1 := ⟨fu - 1, by omega⟩
    have l1 := getD_lt b.2.2.2 (fr + k)
    have l2 := getD_lt b.2.2.2 (f2 + k)
    unfold g_twice_30 g_twice_71
    rw [if_neg (nI_ge (by omega) (by omega)), if_neg (by decide), mp_ld ha (by decide), hfr, nI_add, mp_look b (by omega), Option.bind_some]
    simp only []
    rw [nI_add, mp_look b (by omega), Option.bind_some]
    simp only []
    rw [nI_1]
    by_cases q : xs.getD (fr + k) 0 = xs.getD (f2 + k) 0
    · rw [if_pos (by rw [q])]
      have I := ih fu (k + 1) (by omega) (by omega)
      exact ⟨fun w => I.1 (fun j h1 h2 => w j (by omega) h2), fun w => I.2 (fun v => w (fun j h1 h2 => by
          by_cases e : j = k
          · rw [e]; exact q
          · exact v j (by omega) h2))⟩
    · rw [if_neg (fun w => q ((nI_eq (by omega) (by omega)).mp w))]
      refine ⟨fun v => absurd (v k (Nat.le_refl _) (by omega)) q, fun _ => ?_⟩
      obtain ⟨fu, rfl⟩ : ∃ f, fu = f + 1 := ⟨fu - 1, by omega⟩
      unfold g_twice_30 g_twice_79
      by_cases e : nI n ≤ nI (k + 1)
      · rw [if_pos e, if_pos rfl]
      · rw [if_neg e, if_pos rfl, if_pos rfl]
theorem rm_tw0 {k3 : Int32 → Int32 → Int32 → Int32 → mT → Option (Int32 × mT)} {x1 x2 x3 x4 : Int32} {fu : Nat} : g_twice_30 k3 (fu + 1) x1 x2 x3 x4 0 0 st = k3 x1 x2 x3 (x4 + 1) st := by
  unfold g_twice_30 g_twice_79
  by_cases e : x3 ≤ 0
  · rw [if_pos e, if_pos rfl]
  · rw [if_neg e, if_pos rfl, if_pos rfl]
theorem rm_twL (b : md_buf st xs) {att : List (List Nat × List Nat)} (hn : nmR st xs att) (hal : att.length ≤ 30) {f2 n : Nat} (hf2 : f2 + n ≤ xs.length) : ∀ (r fu a : Nat), a + r = att.length → r < fu → ((∃ j, a ≤ j ∧ j < att.length ∧ (att.getD j ([], [])).1 = (xs.drop f2).take n) → g_twice_3 fu (nI att.length) (nI f2) (nI n) (nI a) st = some (1, st)) ∧ ((¬ ∃ j, a ≤ j ∧ j < att.length ∧ (att.getD j ([], [])).1 = (xs.drop f2).take n) → g_twice_3 fu (nI att.length) (nI f2) (nI n) (nI a) st = some (0, st)) := by
  have hl := b.2.2.1
  intro r
  induction r with
  | zero =>
    intro fu a ha hfu
    obtain ⟨fu, rfl⟩ : ∃ f, fu = f + 1 := ⟨fu - 1, by omega⟩
    unfold g_twice_3
    rw [if_pos (nI_le (by omega) (by omega))]
    exact ⟨fun w => (by obtain ⟨j, h1, h2, _⟩ := w; omega), fun _ => rfl⟩
  | succ r ih =>
    intro fu a ha hfu
    obtain ⟨fu, rfl⟩ : ∃ f, fu = f + 1 := ⟨fu - 1, by omega⟩
    obtain ⟨fr, m, h1, h2, h3, h4⟩ := hn a (by omega)
    have nx : (att.getD a ([], [])).1 ≠ (xs.drop f2).take n → ((∃ j, a ≤ j ∧ j < att.length ∧ (att.getD j ([], [])).1 = (xs.drop f2).take n) → g_twice_3 fu (nI att.length) (nI f2) (nI n) (nI a + 1) st = some (1, st)) ∧ ((¬ ∃ j, a ≤ j ∧ j < att.length ∧ (att.getD j ([], [])).1 = (xs.drop f2).take n) → g_twice_3 fu (nI att.length) (nI f2) (nI n) (nI a + 1) st = some (0, st)) := fun ne => by
      have I := ih fu (a + 1) (by omega) (by omega)
      rw [nI_1]
      refine ⟨fun w => I.1 ?_, fun w => I.2 (fun v => w ?_)⟩
      · obtain ⟨j, w1, w2, w3⟩ := w
        by_cases e : j = a
        · rw [e] at w3; exact absurd w3 ne
        · exact ⟨j, by omega, w2, w3⟩
      · obtain ⟨j, w1, w2⟩ := v
        exact ⟨j, by omega, w2⟩
    unfold g_twice_3 g_twice_25
    rw [if_neg (nI_ge (by omega) (by omega)), mp_ld (by omega) (by decide), h2]
    by_cases q : m = n
    · subst q
      rw [if_pos rfl]
      have e0 := rm_tw30 b (k3 := g_twice_3 fu) (num := att.length) (n := m) (a := a) (fr := fr) (f2 := f2) (by omega) h1 (by omega) (by omega) m mF 0 (by omega) (by unfold mF; omega)
      change (_ → g_twice_30 (g_twice_3 fu) mF (nI att.length) (nI f2) (nI m) (nI a) 1 0 st = _) ∧ (_ → g_twice_30 (g_twice_3 fu) mF (nI att.length) (nI f2) (nI m) (nI a) 1 0 st = _) at e0
      by_cases w : ∀ j, 0 ≤ j → j < m → xs.getD (fr + j) 0 = xs.getD (f2 + j) 0
      · rw [e0.1 w]
        exact ⟨fun _ => rfl, fun v => absurd ⟨a, Nat.le_refl _, by omega, by rw [h4]; exact (take_eq h3 hf2).mpr (fun j hj => w j (Nat.zero_le _) hj)⟩ v⟩
      · rw [e0.2 w]
        exact nx (fun e => w (fun j _ hj => (take_eq h3 hf2).mp (by rw [← h4]; exact e) j hj))
    · rw [if_neg (fun w => q ((nI_eq (by omega) (by omega)).mp w))]
      have : g_twice_30 (g_twice_3 fu) mF (nI att.length) (nI f2) (nI n) (nI a) 0 0 st = g_twice_3 fu (nI att.length) (nI f2) (nI n) (nI a + 1) st := rm_tw0 (fu := 5999)
      rw [this]
      refine nx (fun e => q ?_)
      have := congrArg List.length e
      rw [h4, List.length_take, List.length_take, List.length_drop, List.length_drop] at this
      omega
theorem rm_tw (b : md_buf st xs) {att : List (List Nat × List Nat)} (hn : nmR st xs att) (hal : att.length ≤ 30) {f2 n : Nat} (hf2 : f2 + n ≤ xs.length) : ((∃ q ∈ att, q.1 = (xs.drop f2).take n) → g_twice (nI att.length) (nI f2) (nI n) st = some (1, st)) ∧ ((¬ ∃ q ∈ att, q.1 = (xs.drop f2).take n) → g_twice (nI att.length) (nI f2) (nI n) st = some (0, st)) := by
  have e := rm_twL b hn hal hf2 att.length mF 0 (by omega) (by unfold mF; omega)
  have e2 : g_twice (nI att.length) (nI f2) (nI n) st = g_twice_3 mF (nI att.length) (nI f2) (nI n) (nI 0) st := rfl
  rw [e2]
  refine ⟨fun w => e.1 ?_, fun w => e.2 (fun v => w ?_)⟩
  · obtain ⟨q, hq, e⟩ := w
    obtain ⟨i, hi, ei⟩ := List.mem_iff_getElem.mp hq
    refine ⟨i, Nat.zero_le _, hi, ?_⟩
    rw [List.getD_eq_getElem?_getD, List.getElem?_eq_getElem hi, Option.getD_some, ei]
    exact e
  · obtain ⟨j, _, h2, h3⟩ := v
    refine ⟨att.getD j ([], []), ?_, h3⟩
    rw [List.getD_eq_getElem?_getD, List.getElem?_eq_getElem h2, Option.getD_some]
    exact List.getElem_mem h2
end QM3
