-- the reference reads: the rows of what is read
def wPs (o : Option Nat) : Int32 := match o with
  | some j => nI j
  | none => -1
def wA (g : Nat → Int32) (o : Nat) (q : List Nat × List Nat) : Prop := g o = nI q.1.length ∧ md_txt g (o + 1) q.1 ∧ g (o + 7) = nI q.2.length ∧ md_txt g (o + 8) q.2
def wR (g : Nat → Int32) (s kd : Nat) (ps : Int32) (att : List (List Nat × List Nat)) (tx : List Nat) : Prop := g (128 * s + 1) = nI kd ∧ g (128 * s + 2) = ps ∧ g (128 * s + 3) = nI tx.length ∧ g (128 * s + 5) = nI att.length ∧ md_txt g (128 * s + 8) tx ∧ (∀ a, a < att.length → wA g (128 * s + (44 + 28 * a)) (att.getD a ([], []))) ∧ ∀ a, att.length ≤ a → a < 3 → g (128 * s + (51 + 28 * a)) = 0
def wB (att : List (List Nat × List Nat)) (tx : List Nat) : Prop := tx.length ≤ 20 ∧ att.length ≤ 3 ∧ ∀ a, a < att.length → (att.getD a ([], [])).1.length ≤ 6 ∧ (att.getD a ([], [])).2.length ≤ 20
theorem wA.congr {g g2 : Nat → Int32} {o : Nat} {q : List Nat × List Nat} (h : wA g o q) (b1 : q.1.length ≤ 6) (b2 : q.2.length ≤ 20) (e : ∀ i, o ≤ i → i < o + 28 → g2 i = g i) : wA g2 o q :=
  ⟨(e _ (by omega) (by omega)).trans h.1, fun j hj => (e _ (by omega) (by omega)).trans (h.2.1 j hj), (e _ (by omega) (by omega)).trans h.2.2.1, fun j hj => (e _ (by omega) (by omega)).trans (h.2.2.2 j hj)⟩
theorem wR.congr {g g2 : Nat → Int32} {s kd : Nat} {ps : Int32} {att : List (List Nat × List Nat)} {tx : List Nat} (h : wR g s kd ps att tx) (b : wB att tx) (e : ∀ i, 128 * s ≤ i → i < 128 * s + 128 → g2 i = g i) : wR g2 s kd ps att tx := by
  obtain ⟨h1, h2, h3, h5, ht, ha, hz⟩ := h
  obtain ⟨b1, b2, b3⟩ := b
  exact ⟨(e _ (by omega) (by omega)).trans h1, (e _ (by omega) (by omega)).trans h2, (e _ (by omega) (by omega)).trans h3, (e _ (by omega) (by omega)).trans h5, fun j hj => (e _ (by omega) (by omega)).trans (ht j hj), fun a hal => (ha a hal).congr (b3 a hal).1 (b3 a hal).2 (fun i h1 h2 => e i (by omega) (by omega)), fun a h1 h2 => (e _ (by omega) (by omega)).trans (hz a h1 h2)⟩
theorem getD_snoc {α : Type} {t : List α} {c d : α} : (t ++ [c]).getD t.length d = c := by rw [List.getD_eq_getElem?_getD, List.getElem?_append_right (Nat.le_refl _), Nat.sub_self]; rfl
theorem getD_left {α : Type} {t u : List α} {d : α} {j : Nat} (h : j < t.length) : (t ++ u).getD j d = t.getD j d := by rw [List.getD_eq_getElem?_getD, List.getElem?_append_left h, ← List.getD_eq_getElem?_getD]
theorem len_snoc {α : Type} {t : List α} {c : α} : (t ++ [c]).length = t.length + 1 := by rw [List.length_append]; rfl
theorem md_txt.snoc {g g2 : Nat → Int32} {o c : Nat} {t : List Nat} (h : md_txt g o t) (e : ∀ j, j < t.length → g2 (o + j) = g (o + j)) (ec : g2 (o + t.length) = nI c) : md_txt g2 o (t ++ [c]) := fun j hj => by
  rw [len_snoc] at hj
  by_cases q : j < t.length
  · rw [e j q, getD_left q]
    exact h j q
  · rw [show j = t.length by omega, getD_snoc]
    exact ec
/-- one sign more in the text -/
theorem wR.txt {g : Nat → Int32} {s kd : Nat} {ps : Int32} {att : List (List Nat × List Nat)} {tx : List Nat} (h : wR g s kd ps att tx) (b : wB att tx) (hl : tx.length < 20) (c : Nat) : wR (upd (upd g (128 * s + 8 + tx.length) (nI c)) (128 * s + 3) (nI (tx.length + 1))) s kd ps att (tx ++ [c]) := by
  obtain ⟨h1, h2, h3, h5, ht, ha, hz⟩ := h
  obtain ⟨b1, b2, b3⟩ := b
  have e : ∀ i, i ≠ 128 * s + 3 → i ≠ 128 * s + 8 + tx.length → (upd (upd g (128 * s + 8 + tx.length) (nI c)) (128 * s + 3) (nI (tx.length + 1))) i = g i := fun i q1 q2 => by rw [upd_n q1, upd_n q2]
  exact ⟨(e _ (by omega) (by omega)).trans h1, (e _ (by omega) (by omega)).trans h2, by rw [upd_s, len_snoc], (e _ (by omega) (by omega)).trans h5, ht.snoc (fun j hj => e _ (by omega) (by omega)) (by rw [upd_n (by omega), upd_s]), fun a hal => (ha a hal).congr (b3 a hal).1 (b3 a hal).2 (fun i h1 h2 => e i (by omega) (by omega)), fun a h1 h2 => (e _ (by omega) (by omega)).trans (hz a h1 h2)⟩
/-- a stretch is filled -/
def wFill (g g2 : Nat → Int32) (o : Nat) (t : List Nat) : Prop := md_txt g2 o t ∧ ∀ i, i < o ∨ o + t.length ≤ i → g2 i = g i
theorem wR.name {g g2 : Nat → Int32} {s kd : Nat} {ps : Int32} {nm : List Nat} (h : wR g s kd ps [] []) (hn : nm.length ≤ 6) (f : wFill g g2 (128 * s + 8) nm) : wR (upd g2 (128 * s + 3) (nI nm.length)) s kd ps [] nm := by
  obtain ⟨h1, h2, h3, h5, ht, ha, hz⟩ := h
  have e : ∀ i, i ≠ 128 * s + 3 → i < 128 * s + 8 ∨ 128 * s + 8 + nm.length ≤ i → (upd g2 (128 * s + 3) (nI nm.length)) i = g i := fun i q1 q2 => by rw [upd_n q1]; exact f.2 i q2
  exact ⟨(e _ (by omega) (by omega)).trans h1, (e _ (by omega) (by omega)).trans h2, by rw [upd_s], (e _ (by omega) (by omega)).trans h5, fun j hj => by rw [upd_n (by omega)]; exact f.1 j hj, fun a hal => absurd hal (by simp), fun a h1 h2 => (e _ (by omega) (by omega)).trans (hz a h1 h2)⟩
theorem wR.att {g g2 : Nat → Int32} {s kd : Nat} {ps : Int32} {att : List (List Nat × List Nat)} {tx nm : List Nat} (h : wR g s kd ps att tx) (b : wB att tx) (hn : nm.length ≤ 6) (hl : att.length < 3) (f : wFill g g2 (128 * s + (44 + 28 * att.length) + 1) nm) : wR (upd (upd g2 (128 * s + (44 + 28 * att.length)) (nI nm.length)) (128 * s + 5) (nI (att.length + 1))) s kd ps (att ++ [(nm, [])]) tx := by
  obtain ⟨h1, h2, h3, h5, ht, ha, hz⟩ := h
  obtain ⟨b1, b2, b3⟩ := b
  have e : ∀ i, i ≠ 128 * s + 5 → i < 128 * s + (44 + 28 * att.length) ∨ 128 * s + (44 + 28 * att.length) + 1 + nm.length ≤ i → (upd (upd g2 (128 * s + (44 + 28 * att.length)) (nI nm.length)) (128 * s + 5) (nI (att.length + 1))) i = g i := fun i q1 q2 => by rw [upd_n q1, upd_n (by omega)]; exact f.2 i (by omega)
  refine ⟨(e _ (by omega) (by omega)).trans h1, (e _ (by omega) (by omega)).trans h2, (e _ (by omega) (by omega)).trans h3, by rw [upd_s, len_snoc], fun j hj => (e _ (by omega) (by omega)).trans (ht j hj), fun a hal => ?_, fun a h1 h2 => ?_⟩
  · rw [len_snoc] at hal
    by_cases q : a < att.length
    · rw [getD_left q]
      exact (ha a q).congr (b3 a q).1 (b3 a q).2 (fun i h1 h2 => e i (by omega) (by omega))
    · have q2 : a = att.length := by omega
      subst q2
      rw [getD_snoc]
      exact ⟨by rw [upd_n (by omega), upd_s], fun j hj => by
          show (upd (upd g2 (128 * s + (44 + 28 * att.length)) (nI nm.length)) (128 * s + 5) (nI (att.length + 1))) _ = _
          rw [upd_n (by omega), upd_n (by omega)]; exact f.1 j hj, (e _ (by omega) (by omega)).trans (by rw [show 128 * s + (44 + 28 * att.length) + 7 = 128 * s + (51 + 28 * att.length) by omega]; exact hz _ (Nat.le_refl _) hl), fun j hj => absurd hj (by simp)⟩
  · rw [len_snoc] at h1
    exact (e _ (by omega) (by omega)).trans (hz a (by omega) h2)
theorem wR.val {g : Nat → Int32} {s kd : Nat} {ps : Int32} {att : List (List Nat × List Nat)} {tx nm v : List Nat} (h : wR g s kd ps (att ++ [(nm, v)]) tx) (b : wB (att ++ [(nm, v)]) tx) (hl : v.length < 20) (c : Nat) : wR (upd (upd g (128 * s + (44 + 28 * att.length + 8) + v.length) (nI c)) (128 * s + (44 + 28 * att.length + 7)) (nI (v.length + 1))) s kd ps (att ++ [(nm, v ++ [c])]) tx := by
  obtain ⟨h1, h2, h3, h5, ht, ha, hz⟩ := h
  obtain ⟨b1, b2, b3⟩ := b
  rw [len_snoc] at b2 h5
  have bn := b3 att.length (by rw [len_snoc]; omega)
  have an := ha att.length (by rw [len_snoc]; omega)
  rw [getD_snoc] at bn an
  have e : ∀ i, i ≠ 128 * s + (44 + 28 * att.length + 7) → i ≠ 128 * s + (44 + 28 * att.length + 8) + v.length → (upd (upd g (128 * s + (44 + 28 * att.length + 8) + v.length) (nI c)) (128 * s + (44 + 28 * att.length + 7)) (nI (v.length + 1))) i = g i := fun i q1 q2 => by rw [upd_n q1, upd_n q2]
  have bn1 : nm.length ≤ 6 := bn.1
  refine ⟨(e _ (by omega) (by omega)).trans h1, (e _ (by omega) (by omega)).trans h2, (e _ (by omega) (by omega)).trans h3, by rw [len_snoc]; exact (e _ (by omega) (by omega)).trans h5, fun j hj => (e _ (by omega) (by omega)).trans (ht j hj), fun a hal => ?_, fun a h1 h2 => ?_⟩
  · rw [len_snoc] at hal
    by_cases q : a < att.length
    · have := ha a (by rw [len_snoc]; omega)
      have b4 := b3 a (by rw [len_snoc]; omega)
      rw [getD_left q] at this b4 ⊢
      exact this.congr b4.1 b4.2 (fun i h1 h2 => e i (by omega) (by omega))
    · have q2 : a = att.length := by omega
      subst q2
      rw [getD_snoc]
      refine ⟨(e _ (by omega) (by omega)).trans an.1, fun j hj => (e _ (by have : j < nm.length := hj; omega) (by have : j < nm.length := hj; omega)).trans (an.2.1 j hj), ?_, ?_⟩
      · rw [show 128 * s + (44 + 28 * att.length) + 7 = 128 * s + (44 + 28 * att.length + 7) by omega, upd_s]
        show _ = nI (v ++ [c]).length
        rw [len_snoc]
      · refine an.2.2.2.snoc (fun j hj => e _ (by omega) (by have : j < v.length := hj; omega)) ?_
        show (upd (upd g (128 * s + (44 + 28 * att.length + 8) + v.length) (nI c)) (128 * s + (44 + 28 * att.length + 7)) (nI (v.length + 1))) (128 * s + (44 + 28 * att.length) + 8 + v.length) = nI c
        rw [upd_n (by omega), show 128 * s + (44 + 28 * att.length) + 8 + v.length = 128 * s + (44 + 28 * att.length + 8) + v.length by omega, upd_s]
  · rw [len_snoc] at h1
    exact (e _ (by omega) (by omega)).trans (hz a (by rw [len_snoc]; exact h1) h2)
/-- what the rows keep of attributes and text -/
def tA (att : List (List Nat × List Nat)) : List (List Nat × List Nat) := (att.take 3).map (fun q => (q.1, q.2.take 20))
def nm6 (att : List (List Nat × List Nat)) : Prop := ∀ q ∈ att, q.1.length ≤ 6
def wRow (g : Nat → Int32) (i : Nat) (w : wn) : Prop := nm6 w.2.2.2.2.1 ∧ wR g i w.1 (wPs w.2.1) (tA w.2.2.2.2.1) (w.2.2.2.2.2.take 20)
theorem tA_len {att : List (List Nat × List Nat)} : (tA att).length = min 3 att.length := by unfold tA; rw [List.length_map, List.length_take]
theorem getD_mem' {α : Type} {t : List α} {d : α} {j : Nat} (h : j < t.length) : t.getD j d ∈ t := by
  rw [List.getD_eq_getElem?_getD, List.getElem?_eq_getElem h]
  exact List.getElem_mem h
theorem tA_B {att : List (List Nat × List Nat)} {tx : List Nat} (h : nm6 att) : wB (tA att) (tx.take 20) := by
  refine ⟨by rw [List.length_take]; omega, by rw [tA_len]; omega, fun a ha => ?_⟩
  have m := getD_mem' (d := ([], [])) ha
  unfold tA at m ⊢
  rw [List.mem_map] at m
  obtain ⟨q, m1, m2⟩ := m
  rw [← m2]
  exact ⟨h q (List.mem_of_mem_take m1), by show (q.2.take 20).length ≤ 20; rw [List.length_take]; omega⟩
theorem tA_snoc {att : List (List Nat × List Nat)} {nm v : List Nat} (h : att.length < 3) : tA (att ++ [(nm, v)]) = tA att ++ [(nm, v.take 20)] := by
  unfold tA
  rw [List.take_of_length_le (by rw [len_snoc]; omega), List.take_of_length_le (by omega), List.map_append]
  rfl
theorem tA_full {att u : List (List Nat × List Nat)} (h : 3 ≤ att.length) : tA (att ++ u) = tA att := by
  unfold tA
  rw [List.take_append_of_le_length h]
theorem tA_le {att : List (List Nat × List Nat)} (h : att.length ≤ 3) : (tA att).length = att.length := by rw [tA_len]; omega
theorem wRow.congr {g g2 : Nat → Int32} {i : Nat} {w : wn} (h : wRow g i w) (e : ∀ j, 128 * i ≤ j → j < 128 * i + 128 → g2 j = g j) : wRow g2 i w := ⟨h.1, h.2.congr (tA_B h.1) e⟩
-- the reference reads: its state
def mb (st : mT) (g : Nat → Int32) : mT := (st.1, (fun j => if j = 2 then g else st.2.1 j), st.2.2)
theorem mb_g {st : mT} {g : Nat → Int32} : (mb st g).2.1 2 = g := rfl
theorem mb_k {st : mT} {g : Nat → Int32} {k : Nat} (h : k ≠ 2) : (mb st g).2.1 k = st.2.1 k := if_neg h
theorem mb_G {st : mT} {g : Nat → Int32} {i : Nat} {v : Int32} : mm_G (mb st g) 2 i v = mb st (upd g i v) := by
  unfold mm_G mb
  refine Prod.ext rfl (Prod.ext ?_ rfl)
  funext j
  by_cases q : j = 2
  · simp [q]
  · simp [q]
theorem mb_id (st : mT) : mb st (st.2.1 2) = st := by
  unfold mb
  refine Prod.ext rfl (Prod.ext ?_ rfl)
  funext j
  by_cases q : j = 2
  · simp [q]
  · simp [q]
theorem mF_id (st : mT) (k : Nat) : mm_F st k (st.1 k) = st := by
  unfold mm_F
  refine Prod.ext ?_ rfl
  funext j
  by_cases q : j = k
  · rw [q]; exact upd_s
  · exact upd_n q
theorem mFr.mb {st0 st : mT} {g : Nat → Int32} (h : mFr st0 st) : mFr st0 (mb st g) := ⟨h.1, fun a ha => by rw [mb_k (fun w => ha (by rw [w]; exact Or.inl rfl))]; exact h.2.1 a ha, h.2.2⟩
theorem e128 {x o : Nat} : (128 : Int32) * nI x + nI o = nI (128 * x + o) := by rw [show (128 : Int32) = nI 128 from rfl, mp_mul, nI_add]
/-- over, so far -/
def ovR (v : Int32) (ov : Bool) (L : Nat) : Prop := (v = 0 ∨ v = 1) ∧ (v = 1 → ov = true) ∧ (ov = true → v = 1 ∨ 40 < L)
theorem ovR.len {v : Int32} {ov : Bool} {L : Nat} (h : ovR v ov L) : ovR v ov (L + 1) := ⟨h.1, h.2.1, fun w => (h.2.2 w).imp id (fun k => by omega)⟩
theorem ovR.up {v : Int32} {ov ov2 : Bool} {L : Nat} (h : ovR v ov L) (hl : 40 < L) (hm : ov = true → ov2 = true) : ovR v ov2 L := ⟨h.1, fun w => hm (h.2.1 w), fun _ => Or.inr hl⟩
theorem ovR.one {L : Nat} : ovR 1 true L := ⟨Or.inr rfl, fun _ => rfl, fun _ => Or.inl rfl⟩
def mR (st0 : mT) (base : Nat) (st : mT) (W : List wn) (ov : Bool) (S : List (Nat × Nat × Nat)) : Prop :=
  mFr st0 st ∧ st.1 9 = -1 ∧ st.1 10 = nI W.length ∧ ovR (st.1 11) ov W.length ∧ st.1 13 = nI base ∧ st.1 14 = nI S.length ∧ (∀ i, i < S.length → st.2.1 15 i = nI (S.getD i (0, 0, 0)).1 ∧ st.2.1 16 i = nI (S.getD i (0, 0, 0)).2.1 ∧ st.2.1 17 i = nI (S.getD i (0, 0, 0)).2.2) ∧ ∀ i, i < W.length → i < 40 → wRow (st.2.1 2) i (W.getD i wn0)
def sLk (par : Option Nat) (S : List (Nat × Nat × Nat)) : Prop := (S = [] ∧ par = none) ∨ ∃ S1 a, S = S1 ++ [a] ∧ par = some a.1
section QM5
variable {st0 st : mT} {xs : List Nat} {base : Nat} {W : List wn} {ov : Bool} {S : List (Nat × Nat × Nat)}
theorem mR.F (R : mR st0 base st W ov S) {k : Nat} {v : Int32} (hk : k = 8 ∨ k = 12 ∨ k = 18 ∨ k = 19) : mR st0 base (mm_F st k v) W ov S := by
  obtain ⟨h1, h2, h3, h4, h5, h6, h7, h8⟩ := R
  have f9 : (mm_F st k v).1 9 = st.1 9 := fF_n (by omega)
  have f10 : (mm_F st k v).1 10 = st.1 10 := fF_n (by omega)
  have f11 : (mm_F st k v).1 11 = st.1 11 := fF_n (by omega)
  have f13 : (mm_F st k v).1 13 = st.1 13 := fF_n (by omega)
  have f14 : (mm_F st k v).1 14 = st.1 14 := fF_n (by omega)
  exact ⟨h1.F (by unfold mfld; omega), f9.trans h2, f10.trans h3, by rw [f11]; exact h4, f13.trans h5, f14.trans h6, h7, h8⟩
theorem mR.G (R : mR st0 base st W ov S) {a i : Nat} {v : Int32} (ha : a = 20 ∨ a = 21) : mR st0 base (mm_G st a i v) W ov S := by
  obtain ⟨h1, h2, h3, h4, h5, h6, h7, h8⟩ := R
  refine ⟨h1.G (by unfold marr; omega), h2, h3, h4, h5, h6, fun j hj => ?_, fun j h1 h2 => ?_⟩
  · rw [fG_n (by omega), fG_n (by omega), fG_n (by omega)]
    exact h7 j hj
  · rw [fG_n (by omega)]
    exact h8 j h1 h2
theorem mR.buf (R : mR st0 base st W ov S) (b : md_buf st0 xs) : md_buf st xs := R.1.buf b
/-- the last node is another -/
theorem mR.last {w w2 : wn} {ov2 : Bool} {g2 : Nat → Int32} {v : Int32} (R : mR st0 base st (W ++ [w]) ov S) (hg : ∀ i, i < 128 * W.length ∨ 128 * W.length + 128 ≤ i → g2 i = st.2.1 2 i) (hv : ovR v ov2 (W.length + 1)) (hr : W.length < 40 → wRow g2 W.length w2) : mR st0 base (mb (mm_F st 11 v) g2) (W ++ [w2]) ov2 S := by
  obtain ⟨h1, h2, h3, h4, h5, h6, h7, h8⟩ := R
  rw [len_snoc] at h3
  have f : ∀ k, k ≠ 11 → (mm_F st 11 v).1 k = st.1 k := fun k q => fF_n q
  refine ⟨(h1.F (by unfold mfld; omega)).mb, (f 9 (by omega)).trans h2, ?_, ?_, (f 13 (by omega)).trans h5, (f 14 (by omega)).trans h6, fun j hj => ?_, fun j h1 h2 => ?_⟩
  · rw [len_snoc]
    exact (f 10 (by omega)).trans h3
  · rw [len_snoc]
    show ovR ((mm_F st 11 v).1 11) ov2 (W.length + 1)
    rw [fF_s]
    exact hv
  · rw [mb_k (by omega), mb_k (by omega), mb_k (by omega)]
    exact h7 j hj
  · rw [mb_g]
    rw [len_snoc] at h1
    by_cases q : j < W.length
    · have := h8 j (by rw [len_snoc]; omega) h2
      rw [getD_left q] at this ⊢
      exact this.congr (fun i h3 h4 => hg i (by omega))
    · have e : j = W.length := by omega
      subst e
      rw [getD_snoc]
      exact hr h2
theorem mR.last0 {w w2 : wn} {ov2 : Bool} (R : mR st0 base st (W ++ [w]) ov S) (hv : ovR (st.1 11) ov2 (W.length + 1)) (hr : W.length < 40 → wRow (st.2.1 2) W.length w2) : mR st0 base st (W ++ [w2]) ov2 S := by
  have := R.last (g2 := st.2.1 2) (v := st.1 11) (fun _ _ => rfl) hv hr
  rw [mF_id, mb_id] at this
  exact this
theorem mR.row {w : wn} (R : mR st0 base st (W ++ [w]) ov S) (h : W.length < 40) : wRow (st.2.1 2) W.length w := by
  have := R.2.2.2.2.2.2.2 W.length (by rw [len_snoc]; omega) h
  rw [getD_snoc] at this
  exact this
theorem mR.ovl {w : wn} (R : mR st0 base st (W ++ [w]) ov S) : ovR (st.1 11) ov (W.length + 1) := by
  have := R.2.2.2.1
  rw [len_snoc] at this
  exact this
theorem rm_mkL {x : Nat} (hx : x < 40) {kd ps : Int32} (hps : (st.1 14 = 0 ∧ ps = -1) ∨ ∃ t, t < 8 ∧ st.1 14 = nI (t + 1) ∧ st.2.1 15 t = ps) : ∀ (r fu k : Nat) (g : Nat → Int32), k + r = 128 → r < fu → ∃ g2, g_make_39 fu kd (nI x) (nI k) (mb st g) = some (nI x, mb st g2) ∧ (∀ i, i < 128 * x ∨ 128 * x + 128 ≤ i → g2 i = g i) ∧ g2 (128 * x + 1) = kd ∧ g2 (128 * x + 2) = ps ∧ (∀ i, 128 * x + k ≤ i → i < 128 * x + 128 → i ≠ 128 * x + 1 → i ≠ 128 * x + 2 → g2 i = 0) ∧ ∀ i, 128 * x ≤ i → i < 128 * x + k → i ≠ 128 * x + 1 → i ≠ 128 * x + 2 → g2 i = g i := by
  have e1 : (128 : Int32) * nI x + 1 = nI (128 * x + 1) := e128 (o := 1)
  have e2 : (128 : Int32) * nI x + 2 = nI (128 * x + 2) := e128 (o := 2)
  intro r
  induction r with
  | zero =>
    intro fu k g hk hf
    obtain ⟨fu, rfl⟩ : ∃ f, fu = f + 1 := ⟨fu - 1, by omega⟩
    obtain rfl : k = 128 := by omega
    refine ⟨upd (upd g (128 * x + 1) kd) (128 * x + 2) ps, ?_, fun i hi => by rw [upd_n (by omega), upd_n (by omega)], by rw [upd_n (by omega), upd_s], upd_s, fun i h1 h2 => by omega, fun i h1 h2 h3 h4 => by rw [upd_n h4, upd_n h3]⟩
    unfold g_make_39 g_make_111
    rw [if_pos (show (128 : Int32) ≤ nI 128 from nI_le (a := 128) (Nat.le_refl _) (by decide)), e1, e2, mp_ix (by omega) (by decide)]
    simp only [mm_lt, mb_G]
    rcases hps with ⟨q1, q2⟩ | ⟨t, q0, q1, q2⟩
    · rw [if_pos (show (mb st (upd g (128 * x + 1) kd)).1 14 ≤ 0 by show st.1 14 ≤ 0; rw [q1]; decide), mp_ix (by omega) (by decide), q2]
    · rw [if_neg (show ¬ (mb st (upd g (128 * x + 1) kd)).1 14 ≤ 0 by show ¬ st.1 14 ≤ 0; rw [q1]; exact nI_ge (b := t + 1) (a := 0) (by omega) (by omega))]
      have e3 : (mb st (upd g (128 * x + 1) kd)).1 14 - 1 = nI t := by
        show st.1 14 - 1 = _
        rw [q1, show (1 : Int32) = nI 1 from rfl, nI_sub (by omega)]
        rfl
      rw [e3, mp_ld (by omega) (by decide), mb_k (by decide), q2, mp_ix (by omega) (by decide)]
  | succ r ih =>
    intro fu k g hk hf
    obtain ⟨fu, rfl⟩ : ∃ f, fu = f + 1 := ⟨fu - 1, by omega⟩
    unfold g_make_39
    rw [if_neg (show ¬ (128 : Int32) ≤ nI k from nI_ge (b := 128) (by omega) (by decide)), e128, mp_ix (by omega) (by decide)]
    simp only [mm_lt, mb_G]
    rw [nI_1]
    obtain ⟨g2, h1, h2, h3, h4, h5, h6⟩ := ih fu (k + 1) (upd g (128 * x + k) 0) (by omega) (by omega)
    refine ⟨g2, h1, fun i hi => by rw [h2 i hi, upd_n (by omega)], h3, h4, fun i q1 q2 q3 q4 => ?_, fun i q1 q2 q3 q4 => by rw [h6 i q1 (by omega) q3 q4, upd_n (by omega)]⟩
    by_cases e : i = 128 * x + k
    · rw [h6 i (by omega) (by omega) q3 q4, e, upd_s]
    · exact h5 i (by omega) q2 q3 q4
theorem sLk.ps {par : Option Nat} (lk : sLk par S) (hS : S.length ≤ 8) (R : mR st0 base st W ov S) : (st.1 14 = 0 ∧ wPs par = -1) ∨ ∃ t, t < 8 ∧ st.1 14 = nI (t + 1) ∧ st.2.1 15 t = wPs par := by
  obtain ⟨_, _, _, _, _, h6, h7, _⟩ := R
  rcases lk with ⟨q1, q2⟩ | ⟨S1, a, q1, q2⟩
  · subst q1 q2
    exact Or.inl ⟨h6, rfl⟩
  · subst q1 q2
    rw [len_snoc] at h6 hS
    have := (h7 S1.length (by rw [len_snoc]; omega)).1
    rw [getD_snoc] at this
    exact Or.inr ⟨S1.length, by omega, h6, this⟩
theorem rm_make (R : mR st0 base st W ov S) (hl : W.length ≤ 200) {par : Option Nat} (lk : sLk par S) (hS : S.length ≤ 8) (kd dep : Nat) (lab : List Int32) : ∃ st2, g_make (nI kd) st = some (nI W.length, st2) ∧ mR st0 base st2 (W ++ [(kd, par, dep, lab, [], [])]) ov S ∧ (∀ k, k ≠ 10 → k ≠ 12 → st2.1 k = st.1 k) ∧ st2.1 12 = (if nI kd = 2 then nI W.length else -1) := by
  have hps := lk.ps hS R
  obtain ⟨h1, h2, h3, h4, h5, h6, h7, h8⟩ := R
  have key : ∀ x : Int32, ∃ st2, g_make_26 (nI kd) (nI W.length) x (mm_F st 10 (nI W.length + 1)) = some (nI W.length, st2) ∧ mR st0 base st2 (W ++ [(kd, par, dep, lab, [], [])]) ov S ∧ (∀ k, k ≠ 10 → k ≠ 12 → st2.1 k = st.1 k) ∧ st2.1 12 = x := fun x => by
    have f : ∀ k, k ≠ 10 → k ≠ 12 → (mm_F (mm_F st 10 (nI W.length + 1)) 12 x).1 k = st.1 k := fun k q1 q2 => (fF_n q2).trans (fF_n q1)
    have mk : ∀ g2 : Nat → Int32, (∀ i, i < 128 * W.length ∨ 128 * W.length + 128 ≤ i → g2 i = st.2.1 2 i) → (W.length < 40 → wRow g2 W.length (kd, par, dep, lab, [], [])) → mR st0 base (mb (mm_F (mm_F st 10 (nI W.length + 1)) 12 x) g2) (W ++ [(kd, par, dep, lab, [], [])]) ov S := fun g2 hg hr => by
      refine ⟨((h1.F (by unfold mfld; omega)).F (by unfold mfld; omega)).mb, (f 9 (by omega) (by omega)).trans h2, ?_, ?_, (f 13 (by omega) (by omega)).trans h5, (f 14 (by omega) (by omega)).trans h6, fun j hj => ?_, fun j q1 q2 => ?_⟩
      · show (mm_F (mm_F st 10 (nI W.length + 1)) 12 x).1 10 = _
        rw [fF_n (by omega), fF_s, len_snoc, nI_1]
      · show ovR ((mm_F (mm_F st 10 (nI W.length + 1)) 12 x).1 11) _ _
        rw [f 11 (by omega) (by omega), len_snoc]
        exact h4.len
      · rw [mb_k (by omega), mb_k (by omega), mb_k (by omega)]
        exact h7 j hj
      · rw [mb_g]
        rw [len_snoc] at q1
        by_cases q : j < W.length
        · rw [getD_left q]
          exact (h8 j q q2).congr (fun i h3 h4 => hg i (by omega))
        · have e : j = W.length := by omega
          subst e
          rw [getD_snoc]
          exact hr q2
    unfold g_make_26
    simp only [mm_lt]
    by_cases q : W.length < 40
    · rw [if_pos (show nI W.length < 40 from nI_lt (b := 40) q (by decide))]
      obtain ⟨g2, a1, a2, a3, a4, a5, _⟩ := rm_mkL (st := mm_F (mm_F st 10 (nI W.length + 1)) 12 x) (x := W.length) q (kd := nI kd) (ps := wPs par) (by rw [f 14 (by omega) (by omega)]; exact hps) 128 mF 0 (st.2.1 2) (by omega) (by unfold mF; omega)
      rw [show mb (mm_F (mm_F st 10 (nI W.length + 1)) 12 x) (st.2.1 2) = mm_F (mm_F st 10 (nI W.length + 1)) 12 x from mb_id _] at a1
      refine ⟨_, a1, mk g2 a2 (fun _ => ⟨fun q hq => (by cases hq), a3, a4, ?_, ?_, fun j hj => ?_, fun j hj => ?_, fun a _ ha => ?_⟩), f, fF_s (st := mm_F st 10 (nI W.length + 1)) (k := 12)⟩
      · exact (a5 _ (by omega) (by omega) (by omega) (by omega)).trans rfl
      · exact (a5 _ (by omega) (by omega) (by omega) (by omega)).trans rfl
      · exact absurd hj (by simp)
      · exact absurd hj (by simp [tA])
      · exact a5 _ (by omega) (by omega) (by omega) (by omega)
    · rw [if_neg (show ¬ nI W.length < 40 from nI_nlt (b := 40) (by omega) (by omega))]
      have m := mk (st.2.1 2) (fun _ _ => rfl) (fun w => absurd w q)
      rw [show mb (mm_F (mm_F st 10 (nI W.length + 1)) 12 x) (st.2.1 2) = mm_F (mm_F st 10 (nI W.length + 1)) 12 x from mb_id _] at m
      exact ⟨_, rfl, m, f, fF_s⟩
  unfold g_make
  simp only [mm_lt]
  rw [h3]
  by_cases q : nI kd = 2
  · rw [if_pos q, if_pos q]
    exact key _
  · rw [if_neg q, if_neg q]
    exact key _
theorem rm_app {x l f n c : Nat} (h : x < 40 → st.2.1 2 (128 * x + l) = nI n) (hn : n ≤ 20) (hl : l < 128) (hf : f + 20 ≤ 128) (hx : x ≤ 200) : g_append (nI x) (nI l) (nI f) (nI c) st = some (if x < 40 then (if n < 20 then mb st (upd (upd (st.2.1 2) (128 * x + f + n) (nI c)) (128 * x + l) (nI (n + 1))) else mm_F st 11 1) else st) := by
  unfold g_append
  simp only [mm_lt]
  by_cases q : x < 40
  · rw [if_pos (show nI x < 40 from nI_lt (b := 40) q (by decide)), if_pos q, e128, e128, mp_ld (by omega) (by decide), h q]
    by_cases q2 : n < 20
    · rw [if_pos (show nI n < 20 from nI_lt (b := 20) q2 (by decide)), if_pos q2, nI_add, mp_ix (by omega) (by decide), mp_ix (by omega) (by decide), nI_1]
      conv => lhs; rw [← mb_id st]
      rw [mb_G, mb_G]
    · rw [if_neg (show ¬ nI n < 20 from nI_nlt (b := 20) (by omega) (by omega)), if_neg q2]
  · rw [if_neg (show ¬ nI x < 40 from nI_nlt (b := 40) (by omega) (by omega)), if_neg q]
theorem take_snoc {t : List Nat} {c : Nat} (h : t.length < 20) : (t ++ [c]).take 20 = t ++ [c] ∧ t.take 20 = t := ⟨List.take_of_length_le (by rw [len_snoc]; omega), List.take_of_length_le (by omega)⟩
theorem take_full {t u : List Nat} (h : 20 ≤ t.length) : (t ++ u).take 20 = t.take 20 := List.take_append_of_le_length h
theorem rm_appT {kd dep : Nat} {par : Option Nat} {lab : List Int32} {tx : List Nat} (hl : W.length ≤ 200) (R : mR st0 base st (W ++ [(kd, par, dep, lab, [], tx)]) (ov || decide (20 < tx.length)) S) (c : Nat) : ∃ st2, g_append (nI W.length) 3 8 (nI c) st = some st2 ∧ mR st0 base st2 (W ++ [(kd, par, dep, lab, [], tx ++ [c])]) (ov || decide (20 < (tx ++ [c]).length)) S ∧ ∀ k, k ≠ 11 → st2.1 k = st.1 k := by
  have hov := R.ovl
  rw [len_snoc]
  refine ⟨_, rm_app (x := W.length) (l := 3) (f := 8) (n := (tx.take 20).length) (fun q => (R.row q).2.2.2.1) (by rw [List.length_take]; omega) (by decide) (by decide) hl, ?_⟩
  by_cases q : W.length < 40
  · rw [if_pos q]
    have rw0 := (R.row q).2
    by_cases q2 : tx.length < 20
    · rw [if_pos (by rw [List.length_take]; omega)]
      obtain ⟨t1, t2⟩ := take_snoc (c := c) q2
      change wR (st.2.1 2) W.length kd (wPs par) (tA []) (tx.take 20) at rw0
      rw [t2] at rw0 ⊢
      have m := R.last (g2 := upd (upd (st.2.1 2) (128 * W.length + 8 + tx.length) (nI c)) (128 * W.length + 3) (nI (tx.length + 1))) (v := st.1 11) (ov2 := ov || decide (20 < tx.length + 1)) (w2 := (kd, par, dep, lab, [], tx ++ [c])) (fun i hi => by rw [upd_n (by omega), upd_n (by omega)]) (by
        rw [show decide (20 < tx.length + 1) = decide (20 < tx.length) by rw [decide_eq_false (by omega), decide_eq_false (by omega)]]
        exact hov) (fun _ => ⟨fun q hq => (by cases hq), by
        show wR _ W.length kd (wPs par) (tA []) ((tx ++ [c]).take 20)
        rw [t1]
        exact rw0.txt ⟨by omega, by simp [tA], fun a ha => absurd ha (by simp [tA])⟩ q2 c⟩)
      rw [mF_id] at m
      exact ⟨m, fun k _ => rfl⟩
    · rw [if_neg (by rw [List.length_take]; omega)]
      have m := R.last (g2 := st.2.1 2) (v := 1) (ov2 := ov || decide (20 < tx.length + 1)) (w2 := (kd, par, dep, lab, [], tx ++ [c])) (fun _ _ => rfl) (by
        rw [decide_eq_true (by omega), Bool.or_true]
        exact ovR.one) (fun _ => ⟨fun q hq => (by cases hq), by
        show wR _ W.length kd (wPs par) (tA []) ((tx ++ [c]).take 20)
        rw [take_full (by omega)]
        exact rw0⟩)
      rw [show mb (mm_F st 11 1) (st.2.1 2) = mm_F st 11 1 from mb_id _] at m
      exact ⟨m, fun k hk => fF_n hk⟩
  · rw [if_neg q]
    exact ⟨R.last0 (hov.up (by omega) (fun w => by
      rw [Bool.or_eq_true, decide_eq_true_iff] at w ⊢
      exact w.imp id (fun k => by omega))) (fun w => absurd w q), fun k _ => rfl⟩
theorem nm6.last {att : List (List Nat × List Nat)} {nm v v2 : List Nat} (h : nm6 (att ++ [(nm, v)])) : nm6 (att ++ [(nm, v2)]) := fun q hq => by
  rw [List.mem_append, List.mem_singleton] at hq
  rcases hq with hq | hq
  · exact h q (by rw [List.mem_append]; exact Or.inl hq)
  · subst hq
    exact h (nm, v) (by rw [List.mem_append, List.mem_singleton]; exact Or.inr rfl)
theorem rm_appV {kd dep : Nat} {par : Option Nat} {lab : List Int32} {att : List (List Nat × List Nat)} {nm v tx : List Nat} (R : mR st0 base st (W ++ [(kd, par, dep, lab, att ++ [(nm, v)], tx)]) (ov || decide (20 < v.length)) S) (q : W.length < 40) (q3 : att.length < 3) (c : Nat) : ∃ st2, g_append (nI W.length) (nI (44 + 28 * att.length) + 7) (nI (44 + 28 * att.length) + 8) (nI c) st = some st2 ∧ mR st0 base st2 (W ++ [(kd, par, dep, lab, att ++ [(nm, v ++ [c])], tx)]) (ov || decide (20 < (v ++ [c]).length)) S ∧ (∀ k, k ≠ 11 → st2.1 k = st.1 k) ∧ ∀ a, a ≠ 2 → st2.2.1 a = st.2.1 a := by
  have hov := R.ovl
  have n6 : nm6 (att ++ [(nm, v)]) := (R.row q).1
  have rw0 : wR (st.2.1 2) W.length kd (wPs par) (tA (att ++ [(nm, v)])) (tx.take 20) := (R.row q).2
  have B := tA_B (tx := tx) n6
  have el : (tA att).length = att.length := tA_le (by omega)
  rw [len_snoc, show nI (44 + 28 * att.length) + 7 = nI (44 + 28 * att.length + 7) from nI_add _ 7, show nI (44 + 28 * att.length) + 8 = nI (44 + 28 * att.length + 8) from nI_add _ 8]
  rw [tA_snoc q3] at rw0 B
  have av := rw0.2.2.2.2.2.1 att.length (by rw [len_snoc, el]; omega)
  rw [show ((tA att ++ [(nm, v.take 20)]).getD att.length ([], [])) = (nm, v.take 20) by rw [← el]; exact getD_snoc] at av
  have av2 : st.2.1 2 (128 * W.length + (44 + 28 * att.length + 7)) = nI (v.take 20).length := by
    rw [← Nat.add_assoc]
    exact av.2.2.1
  refine ⟨_, rm_app (x := W.length) (l := 44 + 28 * att.length + 7) (f := 44 + 28 * att.length + 8) (n := (v.take 20).length) (fun _ => av2) (by rw [List.length_take]; omega) (by omega) (by omega) (by omega), ?_⟩
  rw [if_pos q]
  by_cases q2 : v.length < 20
  · rw [if_pos (by rw [List.length_take]; omega)]
    obtain ⟨t1, t2⟩ := take_snoc (c := c) q2
    rw [t2] at rw0 B ⊢
    have m := R.last (g2 := upd (upd (st.2.1 2) (128 * W.length + (44 + 28 * att.length + 8) + v.length) (nI c)) (128 * W.length + (44 + 28 * att.length + 7)) (nI (v.length + 1))) (v := st.1 11) (ov2 := ov || decide (20 < v.length + 1)) (w2 := (kd, par, dep, lab, att ++ [(nm, v ++ [c])], tx)) (fun i hi => by rw [upd_n (by omega), upd_n (by omega)]) (by
      rw [show decide (20 < v.length + 1) = decide (20 < v.length) by rw [decide_eq_false (by omega), decide_eq_false (by omega)]]
      exact hov) (fun _ => ⟨n6.last, by
      show wR _ W.length kd (wPs par) (tA (att ++ [(nm, v ++ [c])])) (tx.take 20)
      rw [tA_snoc q3, t1]
      have := rw0.val B q2 c
      rw [el] at this
      exact this⟩)
    rw [mF_id] at m
    exact ⟨m, fun k _ => rfl, fun a ha => mb_k ha⟩
  · rw [if_neg (by rw [List.length_take]; omega)]
    have m := R.last (g2 := st.2.1 2) (v := 1) (ov2 := ov || decide (20 < v.length + 1)) (w2 := (kd, par, dep, lab, att ++ [(nm, v ++ [c])], tx)) (fun _ _ => rfl) (by
      rw [decide_eq_true (by omega), Bool.or_true]
      exact ovR.one) (fun _ => ⟨n6.last, by
      show wR _ W.length kd (wPs par) (tA (att ++ [(nm, v ++ [c])])) (tx.take 20)
      rw [tA_snoc q3, take_full (by omega)]
      exact rw0⟩)
    rw [show mb (mm_F st 11 1) (st.2.1 2) = mm_F st 11 1 from mb_id _] at m
    exact ⟨m, fun k hk => fF_n hk, fun a _ => rfl⟩
theorem rm_notV {kd dep : Nat} {par : Option Nat} {lab : List Int32} {att : List (List Nat × List Nat)} {nm v tx : List Nat} (R : mR st0 base st (W ++ [(kd, par, dep, lab, att ++ [(nm, v)], tx)]) (ov || decide (20 < v.length)) S) (q : ¬ (W.length < 40 ∧ att.length < 3)) (h1 : 3 ≤ att.length → st.1 11 = 1) (c : Nat) : mR st0 base st (W ++ [(kd, par, dep, lab, att ++ [(nm, v ++ [c])], tx)]) (ov || decide (20 < (v ++ [c]).length)) S := by
  have hov := R.ovl
  have up : (ov || decide (20 < v.length)) = true → (ov || decide (20 < (v ++ [c]).length)) = true := fun w => by
    rw [Bool.or_eq_true, decide_eq_true_iff] at w ⊢
    exact w.imp id (fun k => by rw [len_snoc]; omega)
  refine R.last0 ⟨hov.1, fun w => up (hov.2.1 w), fun w => ?_⟩ (fun w => ?_)
  · by_cases q1 : W.length < 40
    · exact Or.inl (h1 (by omega))
    · exact Or.inr (by omega)
  · have r := R.row w
    refine ⟨r.1.last, ?_⟩
    have r2 := r.2
    change wR _ _ kd (wPs par) (tA (att ++ [(nm, v)])) (tx.take 20) at r2
    show wR _ _ kd (wPs par) (tA (att ++ [(nm, v ++ [c])])) (tx.take 20)
    rw [tA_full (by omega)] at r2 ⊢
    exact r2
end QM5
-- the reference reads: an attribute
def kp (st st2 : mT) : Prop := st2.1 8 = st.1 8 ∧ st2.1 12 = st.1 12 ∧ st2.2.1 20 = st.2.1 20 ∧ st2.2.1 21 = st.2.1 21
theorem kp.refl {st : mT} : kp st st := ⟨rfl, rfl, rfl, rfl⟩
theorem kp.trans {a b c : mT} (h : kp a b) (g : kp b c) : kp a c := ⟨g.1.trans h.1, g.2.1.trans h.2.1, g.2.2.1.trans h.2.2.1, g.2.2.2.trans h.2.2.2⟩
theorem kp.F {st : mT} {k : Nat} {v : Int32} (h : k ≠ 8) (h2 : k ≠ 12) : kp st (mm_F st k v) := ⟨fF_n (Ne.symm h), fF_n (Ne.symm h2), rfl, rfl⟩
def p_q (xs : List Nat) (r : Nat ⊕ (Nat × List Nat)) : Nat ⊕ (Nat × List Nat) := match r with
  | .inl e => .inl e
  | .inr (q, v) => if xs.getD q 0 = 34 then .inr (q + 1, v) else .inl q
section QM6
variable {st0 st : mT} {xs : List Nat} {base : Nat} {W : List wn} {ov : Bool} {S : List (Nat × Nat × Nat)} {par : Option Nat} {dep : Nat} {lab : List Int32} {att : List (List Nat × List Nat)} {nm tx : List Nat}
def vG (st0 st : mT) (base : Nat) (W : List wn) (par : Option Nat) (dep : Nat) (lab : List Int32) (att : List (List Nat × List Nat)) (nm tx : List Nat) (ov : Bool) (S : List (Nat × Nat × Nat)) (r : Nat ⊕ (Nat × List Nat)) (o : Option (Int32 × mT)) : Prop := match r with
  | .inl e => mq o (fun a => mFr st0 a.2 ∧ a.2.1 9 = nI e)
  | .inr (q, v) => mq o (fun a => a.1 = nI q ∧ mR st0 base a.2 (W ++ [(1, par, dep, lab, att ++ [(nm, v)], tx)]) (ov || decide (20 < v.length)) S ∧ kp st a.2)
theorem vG.tr {st1 : mT} {r : Nat ⊕ (Nat × List Nat)} {o : Option (Int32 × mT)} (h : vG st0 st1 base W par dep lab att nm tx ov S r o) (k : kp st st1) : vG st0 st base W par dep lab att nm tx ov S r o := by
  cases r with
  | inl e => exact h
  | inr q =>
    obtain ⟨a, h1, h2, h3, h4⟩ := h
    exact ⟨a, h1, h2, h3, k.trans h4⟩
def keptR (x6 : Int32) (W : List wn) (att : List (List Nat × List Nat)) : Prop := (x6 = 1 ∧ W.length < 40 ∧ att.length < 3) ∨ (x6 = 0 ∧ ¬ (W.length < 40 ∧ att.length < 3))
theorem rm_281 {k218 : Int32 → Int32 → Int32 → Int32 → mT → Option (Int32 × mT)} {v : List Nat} {x6 : Int32} (R : mR st0 base st (W ++ [(1, par, dep, lab, att ++ [(nm, v)], tx)]) (ov || decide (20 < v.length)) S) (hk : keptR x6 W att) (h1 : 3 ≤ att.length → st.1 11 = 1) {x8 : Int32} {c d p : Nat} (hc : c < 128) (hx : (x8 = 38 ∧ st.1 18 = nI c ∧ st.1 19 = nI d) ∨ (x8 ≠ 38 ∧ x8 = nI c ∧ d = 1)) : ∃ st2, g_attribute_281 k218 (nI W.length) (nI (44 + 28 * att.length)) x6 (nI p) x8 st = k218 (nI W.length) (nI (44 + 28 * att.length)) x6 (nI (p + d)) st2 ∧ mR st0 base st2 (W ++ [(1, par, dep, lab, att ++ [(nm, v ++ [c])], tx)]) (ov || decide (20 < (v ++ [c]).length)) S ∧ kp st st2 ∧ (3 ≤ att.length → st2.1 11 = 1) := by
  have fin : ∀ st2 : mT, st2.1 19 = st.1 19 → g_attribute_318 k218 (nI W.length) (nI (44 + 28 * att.length)) x6 (nI p) x8 st2 = k218 (nI W.length) (nI (44 + 28 * att.length)) x6 (nI (p + d)) st2 := fun st2 e => by
    unfold g_attribute_318 g_attribute_339 g_attribute_341
    rcases hx with ⟨a1, a2, a3⟩ | ⟨a1, a2, a3⟩
    · rw [if_pos a1, e, a3, nI_add]
    · rw [if_neg a1, a3, nI_1]
  rcases hk with ⟨k1, k2, k3⟩ | ⟨k1, k2⟩
  · obtain ⟨st2, a1, a2, a3, a4⟩ := rm_appV R k2 k3 c
    refine ⟨st2, ?_, a2, ⟨a3 8 (by decide), a3 12 (by decide), a4 20 (by decide), a4 21 (by decide)⟩, fun w => absurd w (by omega)⟩
    rw [← fin st2 (a3 19 (by decide))]
    unfold g_attribute_281 g_attribute_315
    rw [if_neg (by rw [k1]; decide)]
    rcases hx with ⟨b1, b2, b3⟩ | ⟨b1, b2, b3⟩
    · rw [if_pos b1, b2, show ((nI c).toUInt32 % 65536).toInt32 = nI c from nI_char (by omega), a1]
      rfl
    · rw [if_neg b1, b2, a1]
      rfl
  · refine ⟨st, ?_, rm_notV R k2 h1 c, kp.refl, h1⟩
    rw [← fin st rfl]
    unfold g_attribute_281
    rw [if_pos k1]
theorem rm_attE (b : md_buf st xs) {p fu : Nat} {x1 x5 x6 : Int32} (h : st.1 9 = -1) (hp : p ≤ xs.length) : g_attribute_272 (g_attribute_218 (fu + 1)) x1 x5 x6 (nI p) st = some (nI p + 1, mm_F st 9 (nI p)) := by
  have hl := b.2.2.1
  unfold g_attribute_272 g_attribute_341
  rw [rm_err b h hp, Option.bind_some]
  unfold g_attribute_218 g_attribute_344
  rw [if_pos]
  rw [fF_s]
  exact nI_le (Nat.zero_le _) (by omega)
theorem rm_valL (b : md_buf st0 xs) (hx : ∀ c ∈ xs, c ≠ 0) {x6 : Int32} (hk : keptR x6 W att) : ∀ (f fu p : Nat) (v : List Nat) (st : mT), p ≤ xs.length → xs.length < p + f → xs.length + 1 < p + fu → mR st0 base st (W ++ [(1, par, dep, lab, att ++ [(nm, v)], tx)]) (ov || decide (20 < v.length)) S → (3 ≤ att.length → st.1 11 = 1) → vG st0 st base W par dep lab att nm tx ov S (p_q xs (p_val xs 34 f p v)) (g_attribute_218 fu (nI W.length) (nI (44 + 28 * att.length)) x6 (nI p) st) := by
  have hl := b.2.2.1
  intro f
  induction f with
  | zero => intro fu p v st hp h1; omega
  | succ f ih =>
    intro fu p v st hp h1 h2 R h3
    obtain ⟨fu, rfl⟩ : ∃ f, fu = f + 2 := ⟨fu - 2, by omega⟩
    have bs := R.buf b
    have h9 : st.1 9 = -1 := R.2.1
    have lc := getD_lt bs.2.2.2 p
    have c34 : nI (xs.getD p 0) = 34 ↔ xs.getD p 0 = 34 := nI_eq (b := 34) (by omega) (by decide)
    have c0 : nI (xs.getD p 0) = 0 ↔ xs.getD p 0 = 0 := nI_eq (b := 0) (by omega) (by decide)
    have c60 : nI (xs.getD p 0) = 60 ↔ xs.getD p 0 = 60 := nI_eq (b := 60) (by omega) (by decide)
    have c38 : nI (xs.getD p 0) = 38 ↔ xs.getD p 0 = 38 := nI_eq (b := 38) (by omega) (by decide)
    have er : ∀ st1 : mT, mFr st0 st1 → st1.1 9 = -1 → vG st0 st base W par dep lab att nm tx ov S (.inl p) (g_attribute_272 (g_attribute_218 (fu + 1)) (nI W.length) (nI (44 + 28 * att.length)) x6 (nI p) st1) := fun st1 m1 m2 => by
      rw [rm_attE (m1.buf b) m2 hp]
      exact mq_some ⟨m1.F (by unfold mfld; omega), fF_s⟩
    have go : ∀ (st1 : mT) (x8 : Int32) (c d : Nat), mR st0 base st1 (W ++ [(1, par, dep, lab, att ++ [(nm, v)], tx)]) (ov || decide (20 < v.length)) S → kp st st1 → (3 ≤ att.length → st1.1 11 = 1) → c < 128 → ((x8 = 38 ∧ st1.1 18 = nI c ∧ st1.1 19 = nI d) ∨ (x8 ≠ 38 ∧ x8 = nI c ∧ d = 1)) → 1 ≤ d → p + d ≤ xs.length → vG st0 st base W par dep lab att nm tx ov S (p_q xs (p_val xs 34 f (p + d) (v ++ [c]))) (g_attribute_281 (g_attribute_218 (fu + 1)) (nI W.length) (nI (44 + 28 * att.length)) x6 (nI p) x8 st1) := fun st1 x8 c d r1 k1 o1 hc hx8 d1 d2 => by
      obtain ⟨st2, a1, a2, a3, a4⟩ := rm_281 (k218 := g_attribute_218 (fu + 1)) (p := p) r1 hk o1 hc hx8
      rw [a1]
      exact (ih (fu + 1) (p + d) (v ++ [c]) st2 d2 (by omega) (by omega) a2 a4).tr (k1.trans a3)
    unfold g_attribute_218
    rw [if_neg (by rw [h9]; decide), mp_look bs (by omega), Option.bind_some]
    simp only []
    show vG _ _ _ _ _ _ _ _ _ _ _ _ (p_q xs (if xs.length ≤ p then .inr (p, v) else if xs.getD p 0 = 60 ∨ xs.getD p 0 = 34 then .inr (p, v) else if xs.getD p 0 = 38 then (match a_ent xs p with
      | none => .inl p
      | some (c, q) => p_val xs 34 f (q + 1) (v ++ [c])) else p_val xs 34 f (p + 1) (v ++ [xs.getD p 0]))) _
    by_cases q1 : xs.getD p 0 = 34
    · have := getD_pos q1 (by decide)
      rw [if_pos (c34.mpr q1), if_neg (by omega), if_pos (Or.inr q1)]
      unfold p_q g_attribute_344
      simp only []
      rw [if_pos q1, nI_1]
      exact mq_some ⟨rfl, R, kp.refl⟩
    rw [if_neg (fun w => q1 (c34.mp w)), mp_look bs (by omega), Option.bind_some]
    simp only []
    by_cases q2 : xs.getD p 0 = 0
    · have : xs.length ≤ p := by
        rcases Nat.lt_or_ge p xs.length with w | w
        · exact absurd q2 (hx _ (getD_mem' w))
        · exact w
      rw [if_pos (c0.mpr q2), if_pos this]
      unfold p_q
      simp only []
      rw [if_neg q1]
      exact er st R.1 h9
    have hpl : p < xs.length := by
      rcases Nat.lt_or_ge p xs.length with w | w
      · exact w
      · exact absurd (by rw [List.getD_eq_getElem?_getD, List.getElem?_eq_none w]; rfl) q2
    rw [if_neg (fun w => q2 (c0.mp w)), if_neg (by omega)]
    by_cases q3 : xs.getD p 0 = 60
    · rw [if_pos (c60.mpr q3), if_pos (Or.inl q3)]
      unfold p_q
      simp only []
      rw [if_neg q1]
      exact er st R.1 h9
    rw [if_neg (fun w => q3 (c60.mp w)), if_neg (fun w => w.elim q3 q1)]
    by_cases q4 : xs.getD p 0 = 38
    · rw [if_pos (c38.mpr q4), if_pos q4, rm_ent bs (by omega) q4, Option.bind_some]
      simp only []
      have r1 : mR st0 base (mm_F (mm_F st 18 (entR xs p).2.1) 19 (entR xs p).2.2) (W ++ [(1, par, dep, lab, att ++ [(nm, v)], tx)]) (ov || decide (20 < v.length)) S := (R.F (by omega)).F (by omega)
      have k1 : kp st (mm_F (mm_F st 18 (entR xs p).2.1) 19 (entR xs p).2.2) := (kp.F (by decide) (by decide)).trans (kp.F (by decide) (by decide))
      have f18 : (mm_F (mm_F st 18 (entR xs p).2.1) 19 (entR xs p).2.2).1 18 = (entR xs p).2.1 := (fF_n (by decide)).trans fF_s
      have f19 : (mm_F (mm_F st 18 (entR xs p).2.1) 19 (entR xs p).2.2).1 19 = (entR xs p).2.2 := fF_s
      have f11 : (mm_F (mm_F st 18 (entR xs p).2.1) 19 (entR xs p).2.2).1 11 = st.1 11 := (fF_n (by decide)).trans (fF_n (by decide))
      generalize hs1 : mm_F (mm_F st 18 (entR xs p).2.1) 19 (entR xs p).2.2 = st1 at r1 k1 f18 f19 f11 ⊢
      cases e : a_ent xs p with
      | none =>
        rw [show (entR xs p).1 = 0 by unfold entR; rw [e], if_pos rfl]
        exact er st1 r1.1 r1.2.1
      | some cq =>
        obtain ⟨c, q⟩ := cq
        have es := a_ent_some e
        rw [show (entR xs p).1 = 1 by unfold entR; rw [e], if_neg (by decide)]
        have := go st1 (nI (xs.getD p 0)) c (q + 1 - p) r1 k1 (fun w => f11.trans (h3 w)) es.2.2 (Or.inl ⟨c38.mpr q4, f18.trans (by unfold entR; rw [e]), f19.trans (by unfold entR; rw [e])⟩) (by omega) (by omega)
        rw [show p + (q + 1 - p) = q + 1 by omega] at this
        exact this
    · rw [if_neg (fun w => q4 (c38.mp w)), if_neg q4]
      exact go st (nI (xs.getD p 0)) (xs.getD p 0) 1 R kp.refl h3 lc (Or.inr ⟨fun w => q4 (c38.mp w), rfl, rfl⟩) (by omega) (by omega)
end QM6
-- the reference reads: attributes
theorem getD_tk {xs : List Nat} {p n j : Nat} (h : j < n) : ((xs.drop p).take n).getD j 0 = xs.getD (p + j) 0 := by rw [List.getD_eq_getElem?_getD, List.getElem?_take, if_pos h, List.getElem?_drop, ← List.getD_eq_getElem?_getD]
theorem len_tk {xs : List Nat} {p n : Nat} (h : p + n ≤ xs.length) : ((xs.drop p).take n).length = n := by rw [List.length_take, List.length_drop]; omega
section QM7
variable {st0 st : mT} {xs : List Nat} {base : Nat} {W : List wn} {ov : Bool} {S : List (Nat × Nat × Nat)} {par : Option Nat} {dep : Nat} {lab : List Int32} {att : List (List Nat × List Nat)} {tx : List Nat}
theorem rm_131 (b : md_buf st0 xs) {s : mT} {x a p n : Nat} (m : mFr st0 s) (hx : x < 40) (ha : a < 3) (hn : n ≤ 6) (hp : p + n ≤ xs.length) : ∀ (r fu k : Nat) (g : Nat → Int32), k + r = n → r < fu → ∃ g2, g_attribute_131 fu (nI x) (nI a) (nI p) (nI n) (nI (44 + 28 * a)) 1 (nI k) (mb s g) = g_attribute_175 (nI x) (nI a) (nI p) (nI n) (nI (44 + 28 * a)) 1 (mb s g2) ∧ (∀ j, k ≤ j → j < n → g2 (128 * x + (44 + 28 * a) + 1 + j) = nI (xs.getD (p + j) 0)) ∧ ∀ i, i < 128 * x + (44 + 28 * a) + 1 + k ∨ 128 * x + (44 + 28 * a) + 1 + n ≤ i → g2 i = g i := by
  have hl := b.2.2.1
  intro r
  induction r with
  | zero =>
    intro fu k g hk hf
    obtain ⟨fu, rfl⟩ : ∃ f, fu = f + 1 := ⟨fu - 1, by omega⟩
    refine ⟨g, ?_, fun j h1 h2 => by omega, fun _ _ => rfl⟩
    unfold g_attribute_131
    rw [if_pos (nI_le (by omega) (by omega))]
  | succ r ih =>
    intro fu k g hk hf
    obtain ⟨fu, rfl⟩ : ∃ f, fu = f + 1 := ⟨fu - 1, by omega⟩
    unfold g_attribute_131
    rw [if_neg (nI_ge (by omega) (by omega)), if_neg (by decide), nI_add, mp_look (m.mb.buf b) (by omega), Option.bind_some, e128, nI_1, nI_add, mp_ix (by omega) (by decide)]
    simp only [mm_lt, mb_G]
    rw [nI_1]
    obtain ⟨g2, h1, h2, h3⟩ := ih fu (k + 1) (upd g (128 * x + (44 + 28 * a) + 1 + k) (nI (xs.getD (p + k) 0))) (by omega) (by omega)
    refine ⟨g2, h1, fun j q1 q2 => ?_, fun i hi => by rw [h3 i (by omega), upd_n (by omega)]⟩
    by_cases e : j = k
    · subst e
      rw [h3 _ (by omega), upd_s]
    · exact h2 j (by omega) q2
theorem nm6.snoc {nm v : List Nat} (h : nm6 att) (hn : nm.length ≤ 6) : nm6 (att ++ [(nm, v)]) := fun q hq => by
  rw [List.mem_append, List.mem_singleton] at hq
  rcases hq with hq | hq
  · exact h q hq
  · subst hq
    exact hn
theorem rm_105 (b : md_buf st0 xs) (hx : ∀ c ∈ xs, c ≠ 0) {x6 : Int32} (hk : keptR x6 W att) (hW : W.length ≤ 200) (h6 : nm6 att) (ha : att.length < 30) {p n : Nat} (hn : n ≤ 6) (hp : p + n + 2 ≤ xs.length) (R : mR st0 base st (W ++ [(1, par, dep, lab, att, tx)]) (ov || decide (3 < att.length)) S) : vG st0 st base W par dep lab att ((xs.drop p).take n) tx (ov || decide (3 < att.length + 1)) S (p_q xs (p_val xs 34 200 (p + n + 2) [])) (g_attribute_105 (nI W.length) (nI att.length) (nI p) (nI n) (nI (44 + 28 * att.length)) x6 st) := by
  have hl := b.2.2.1
  have ln := len_tk (xs := xs) (p := p) (n := n) (by omega)
  have key : ∀ v : Int32, (v = 0 ∨ v = 1) → ovR v (ov || decide (3 < att.length + 1)) (W.length + 1) → (3 ≤ att.length → v = 1) → vG st0 st base W par dep lab att ((xs.drop p).take n) tx (ov || decide (3 < att.length + 1)) S (p_q xs (p_val xs 34 200 (p + n + 2) [])) (g_attribute_125 (nI W.length) (nI att.length) (nI p) (nI n) (nI (44 + 28 * att.length)) x6 v st) := fun v hv hov h1 => by
    have ez : g_attribute_125 (nI W.length) (nI att.length) (nI p) (nI n) (nI (44 + 28 * att.length)) x6 v st = g_attribute_131 mF (nI W.length) (nI att.length) (nI p) (nI n) (nI (44 + 28 * att.length)) x6 0 (mm_F st 11 v) := by
      unfold g_attribute_125 mm_zc
      rcases hv with hv | hv
      · rw [if_pos hv]; rfl
      · rw [if_neg (by rw [hv]; decide), if_pos hv]; rfl
    rw [ez]
    have fin : ∀ st2 : mT, mR st0 base st2 (W ++ [(1, par, dep, lab, att ++ [((xs.drop p).take n, [])], tx)]) (ov || decide (3 < att.length + 1)) S → kp st st2 → (3 ≤ att.length → st2.1 11 = 1) → vG st0 st base W par dep lab att ((xs.drop p).take n) tx (ov || decide (3 < att.length + 1)) S (p_q xs (p_val xs 34 200 (p + n + 2) [])) (g_attribute_210 (nI W.length) (nI p) (nI n) (nI (44 + 28 * att.length)) x6 st2) := fun st2 r2 k2 o2 => by
      unfold g_attribute_210
      rw [nI_add, show nI (p + n) + 2 = nI (p + n + 2) from nI_add _ 2]
      exact (rm_valL b hx hk 200 mF (p + n + 2) [] st2 (by omega) (by omega) (by unfold mF; omega) (by rw [show decide (20 < ([] : List Nat).length) = false from rfl, Bool.or_false]; exact r2) o2).tr k2
    have k11 : kp st (mm_F st 11 v) := kp.F (by decide) (by decide)
    rcases hk with ⟨q1, q2, q3⟩ | ⟨q1, q2⟩
    · subst q1
      obtain ⟨g2, a1, a2, a3⟩ := rm_131 b (s := mm_F st 11 v) (x := W.length) (a := att.length) (p := p) (n := n) (R.1.F (by unfold mfld; omega)) q2 q3 hn (by omega) n mF 0 (st.2.1 2) (by omega) (by unfold mF; omega)
      rw [show mb (mm_F st 11 v) (st.2.1 2) = mm_F st 11 v from mb_id _] at a1
      rw [show (0 : Int32) = nI 0 from rfl, a1]
      unfold g_attribute_175
      rw [if_neg (by decide), e128, show (5 : Int32) = nI 5 from rfl, e128, mp_ix (by omega) (by decide)]
      simp only [mm_lt, mb_G]
      rw [mp_ix (by omega) (by decide), nI_1]
      have r0 : wR (st.2.1 2) W.length 1 (wPs par) (tA att) (tx.take 20) := (R.row q2).2
      have el : (tA att).length = att.length := tA_le (by omega)
      have fl : wFill (st.2.1 2) g2 (128 * W.length + (44 + 28 * (tA att).length) + 1) ((xs.drop p).take n) := by
        rw [el]
        refine ⟨fun j hj => ?_, fun i hi => a3 i (by rw [ln] at hi; omega)⟩
        rw [ln] at hj
        rw [getD_tk hj]
        exact a2 j (Nat.zero_le _) hj
      have r2 := r0.att (tA_B h6) (by rw [ln]; exact hn) (by rw [el]; exact q3) fl
      rw [el, ln] at r2
      refine fin _ (R.last (w2 := (1, par, dep, lab, att ++ [((xs.drop p).take n, [])], tx)) (fun i hi => ?_) hov (fun _ => ⟨h6.snoc (by rw [ln]; exact hn), ?_⟩)) ⟨k11.1, k11.2.1, mb_k (by decide), mb_k (by decide)⟩ (fun w => by omega)
      · rw [upd_n (by omega), upd_n (by omega)]
        exact a3 i (by omega)
      · show wR _ _ 1 (wPs par) (tA (att ++ [((xs.drop p).take n, [])])) (tx.take 20)
        rw [tA_snoc q3]
        exact r2
    · subst q1
      have e175 : g_attribute_131 mF (nI W.length) (nI att.length) (nI p) (nI n) (nI (44 + 28 * att.length)) 0 0 (mm_F st 11 v) = g_attribute_210 (nI W.length) (nI p) (nI n) (nI (44 + 28 * att.length)) 0 (mm_F st 11 v) := by
        rw [show mF = 5999 + 1 from rfl]
        unfold g_attribute_131 g_attribute_175
        by_cases w : nI n ≤ 0
        · rw [if_pos w, if_pos rfl]
        · rw [if_neg w, if_pos rfl, if_pos rfl]
      rw [e175]
      have m := R.last (g2 := st.2.1 2) (v := v) (w2 := (1, par, dep, lab, att ++ [((xs.drop p).take n, [])], tx)) (fun _ _ => rfl) hov (fun w => ⟨h6.snoc (by rw [ln]; exact hn), by
        have r0 : wR (st.2.1 2) W.length 1 (wPs par) (tA att) (tx.take 20) := (R.row w).2
        show wR _ _ 1 (wPs par) (tA (att ++ [((xs.drop p).take n, [])])) (tx.take 20)
        rw [tA_full (by omega)]
        exact r0⟩)
      rw [show mb (mm_F st 11 v) (st.2.1 2) = mm_F st 11 v from mb_id _] at m
      exact fin _ m k11 (fun w => fF_s.trans (h1 w))
  have hov := R.ovl
  unfold g_attribute_105 g_attribute_120
  by_cases q3 : att.length < 3
  · have e : (ov || decide (3 < att.length + 1)) = (ov || decide (3 < att.length)) := by rw [decide_eq_false (by omega), decide_eq_false (by omega)]
    rcases hov.1 with w | w
    · rw [if_pos w, if_pos (show nI att.length < 3 from nI_lt (b := 3) q3 (by decide))]
      exact key 0 (Or.inl rfl) (by rw [e, ← w]; exact hov) (fun w => absurd w (by omega))
    · rw [if_neg (by rw [w]; decide)]
      exact key 1 (Or.inr rfl) (by rw [e, ← w]; exact hov) (fun _ => rfl)
  · have e : (ov || decide (3 < att.length + 1)) = true := by rw [decide_eq_true (by omega), Bool.or_true]
    have k := key 1 (Or.inr rfl) (by rw [e]; exact ovR.one) (fun _ => rfl)
    by_cases w : st.1 11 = 0
    · rw [if_pos w, if_neg (show ¬ nI att.length < 3 from nI_nlt (b := 3) (by omega) (by omega))]
      exact k
    · rw [if_neg w]
      exact k
def aG (st0 st : mT) (xs : List Nat) (base : Nat) (W : List wn) (par : Option Nat) (dep : Nat) (lab : List Int32) (att : List (List Nat × List Nat)) (tx : List Nat) (ov : Bool) (S : List (Nat × Nat × Nat)) (r : Nat ⊕ (Nat × (List Nat × List Nat))) (o : Option (Int32 × mT)) : Prop := match r with
  | .inl e => mq o (fun a => mFr st0 a.2 ∧ a.2.1 9 = nI e)
  | .inr (q, nv) => mq o (fun a => a.1 = nI q ∧ mR st0 base a.2 (W ++ [(1, par, dep, lab, att ++ [nv], tx)]) ((ov || decide (20 < nv.2.length)) || decide (3 < (att ++ [nv]).length)) S ∧ a.2.1 8 = st.1 8 ∧ a.2.1 12 = st.1 12 ∧ nmR a.2 xs (att ++ [nv]) ∧ nm6 (att ++ [nv]))
theorem nmR.snoc {nm v : List Nat} {st2 : mT} {p n : Nat} (h : nmR st xs att) (h1 : st2.2.1 20 = upd (st.2.1 20) att.length (nI p)) (h2 : st2.2.1 21 = upd (st.2.1 21) att.length (nI n)) (hp : p + n ≤ xs.length) (e : nm = (xs.drop p).take n) : nmR st2 xs (att ++ [(nm, v)]) := fun a ha => by
  rw [len_snoc] at ha
  by_cases q : a < att.length
  · obtain ⟨fr, m, a1, a2, a3, a4⟩ := h a q
    refine ⟨fr, m, by rw [h1, upd_n (by omega)]; exact a1, by rw [h2, upd_n (by omega)]; exact a2, a3, ?_⟩
    rw [getD_left q]
    exact a4
  · have q2 : a = att.length := by omega
    subst q2
    refine ⟨p, n, by rw [h1, upd_s], by rw [h2, upd_s], hp, ?_⟩
    rw [getD_snoc]
    exact e
theorem rm_attr (b : md_buf st0 xs) (hx : ∀ c ∈ xs, c ≠ 0) (hW : W.length ≤ 200) (h6 : nm6 att) (ha : att.length < 30) {p : Nat} (hp : p ≤ xs.length) (hn : nmR st xs att) (R : mR st0 base st (W ++ [(1, par, dep, lab, att, tx)]) (ov || decide (3 < att.length)) S) : aG st0 st xs base W par dep lab att tx ov S (p_att xs p att) (g_attribute (nI W.length) (nI att.length) (nI p) st) := by
  have bs := R.buf b
  have hl := b.2.2.1
  have l6 := (a_let_small (xs := xs) (p := p)).1
  have lp := a_let_le (xs := xs) (p := p) hp
  have h9 : st.1 9 = -1 := R.2.1
  have e9 : ∀ {k : Nat}, k ≤ xs.length → (0 : Int32) ≤ (mm_F st 9 (nI k)).1 9 := fun {k} hk => by rw [fF_s]; exact nI_le (Nat.zero_le _) (by omega)
  have bad : ∀ k, k ≤ xs.length → aG st0 st xs base W par dep lab att tx ov S (.inl k) (some (nI p, mm_F st 9 (nI k))) := fun k hk => mq_some ⟨R.1.F (by unfold mfld; omega), fF_s⟩
  have e23 : g_attribute_23 (nI W.length) (nI att.length) (nI p) (nI (a_let xs p)) st = some (nI p, mm_F st 9 (nI p)) := by
    unfold g_attribute_23 g_attribute_28 g_attribute_63
    rw [rm_err bs h9 hp, Option.bind_some, if_pos (e9 hp)]
  unfold g_attribute p_att
  rw [mp_letters bs (by omega), Option.bind_some]
  simp only []
  by_cases q1 : a_let xs p = 0
  · rw [if_pos (Or.inl q1), if_pos (by rw [q1]; rfl), e23]
    exact bad p hp
  rw [if_neg (show ¬ nI (a_let xs p) = 0 from fun w => q1 ((nI_eq (b := 0) (by omega) (by decide)).mp w))]
  have tw := rm_tw bs hn (by omega) lp
  by_cases q2 : ∃ q ∈ att, q.1 = (xs.drop p).take (a_let xs p)
  · rw [if_pos (Or.inr q2), tw.1 q2, Option.bind_some, if_neg (show ¬ ((1 : Int32), st).1 = 0 from (by decide : ¬ (1 : Int32) = 0)), e23]
    exact bad p hp
  rw [if_neg (fun w => w.elim q1 q2), tw.2 q2, Option.bind_some, if_pos rfl]
  unfold g_attribute_28 g_attribute_63
  rw [if_neg (show ¬ (0 : Int32) ≤ st.1 9 by rw [h9]; decide), nI_add, show (61 : Int32) = nI 61 from rfl, rm_must bs (by decide) h9 lp]
  by_cases q3 : xs.getD (p + a_let xs p) 0 = 61
  · rw [if_neg (by simp; exact q3), if_pos q3, Option.bind_some, if_neg (show ¬ ((1 : Int32), st).1 = 0 from (by decide : ¬ (1 : Int32) = 0))]
    have lp1 := getD_pos q3 (by decide)
    rw [nI_1, show (34 : Int32) = nI 34 from rfl, rm_must bs (by decide) h9 (by omega)]
    by_cases q4 : xs.getD (p + a_let xs p + 1) 0 = 34
    · have lp2 := getD_pos q4 (by decide)
      rw [if_neg (by simp; exact q4), if_pos q4, Option.bind_some, if_neg (show ¬ ((1 : Int32), st).1 = 0 from (by decide : ¬ (1 : Int32) = 0)), mp_ix ha (by decide)]
      simp only [mm_lt]
      rw [mp_ix ha (by decide)]
      have R1 : mR st0 base (mm_G (mm_G st 20 att.length (nI p)) 21 att.length (nI (a_let xs p))) (W ++ [(1, par, dep, lab, att, tx)]) (ov || decide (3 < att.length)) S := (R.G (by omega)).G (by omega)
      have g20 : (mm_G (mm_G st 20 att.length (nI p)) 21 att.length (nI (a_let xs p))).2.1 20 = upd (st.2.1 20) att.length (nI p) := rfl
      have g21 : (mm_G (mm_G st 20 att.length (nI p)) 21 att.length (nI (a_let xs p))).2.1 21 = upd (st.2.1 21) att.length (nI (a_let xs p)) := rfl
      have g1 : (mm_G (mm_G st 20 att.length (nI p)) 21 att.length (nI (a_let xs p))).1 = st.1 := rfl
      generalize mm_G (mm_G st 20 att.length (nI p)) 21 att.length (nI (a_let xs p)) = s1 at R1 g20 g21 g1 ⊢
      rw [show (44 : Int32) + 28 * nI att.length = nI (44 + 28 * att.length) by rw [show (28 : Int32) = nI 28 from rfl, mp_mul, show (44 : Int32) = nI 44 from rfl, nI_add]]
      have fin : ∀ x6 : Int32, keptR x6 W att → aG st0 st xs base W par dep lab att tx ov S (match p_val xs 34 200 (p + a_let xs p + 2) [] with
          | .inl e => .inl e
          | .inr (q, v) => if xs.getD q 0 = 34 then .inr (q + 1, ((xs.drop p).take (a_let xs p), v)) else .inl q) (g_attribute_105 (nI W.length) (nI att.length) (nI p) (nI (a_let xs p)) (nI (44 + 28 * att.length)) x6 s1) := fun x6 hk => by
        have v := rm_105 (dep := dep) (lab := lab) (par := par) (tx := tx) b hx hk hW h6 ha l6 (p := p) (n := a_let xs p) (by omega) R1
        cases e : p_val xs 34 200 (p + a_let xs p + 2) [] with
        | inl e =>
          rw [e] at v
          exact v
        | inr qv =>
          obtain ⟨q, v1⟩ := qv
          rw [e] at v
          unfold p_q at v
          simp only [] at v ⊢
          by_cases q5 : xs.getD q 0 = 34
          · rw [if_pos q5] at v ⊢
            obtain ⟨a, a1, a2, a3, a4, a5, a6, a7⟩ := v
            refine ⟨a, a1, a2, ?_, a4.trans (by rw [g1]), a5.trans (by rw [g1]), hn.snoc (a6.trans g20) (a7.trans g21) lp rfl, h6.snoc (by rw [len_tk lp]; exact l6)⟩
            rw [len_snoc, Bool.or_assoc, Bool.or_comm (decide (20 < v1.length)), ← Bool.or_assoc]
            exact a3
          · rw [if_neg q5] at v ⊢
            exact v
      unfold g_attribute_104
      by_cases k1 : 3 ≤ att.length
      · rw [if_pos (show (3 : Int32) ≤ nI att.length from nI_le (a := 3) k1 (by omega))]
        exact fin 0 (Or.inr ⟨rfl, by omega⟩)
      · rw [if_neg (show ¬ (3 : Int32) ≤ nI att.length from nI_ge (b := 3) (by omega) (by decide))]
        by_cases k2 : 40 ≤ W.length
        · rw [if_pos (show (40 : Int32) ≤ nI W.length from nI_le (a := 40) k2 (by omega))]
          exact fin 0 (Or.inr ⟨rfl, by omega⟩)
        · rw [if_neg (show ¬ (40 : Int32) ≤ nI W.length from nI_ge (b := 40) (by omega) (by decide))]
          exact fin 1 (Or.inl ⟨rfl, by omega, by omega⟩)
    · rw [if_pos (by exact q4), if_neg q4, Option.bind_some, if_pos rfl]
      exact bad _ (by omega)
  · rw [if_pos (by exact q3), if_neg q3, Option.bind_some, if_pos rfl]
    exact bad _ lp
end QM7
