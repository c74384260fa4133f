-- the class's picture of a document
/-- a node: number, kind, place of its parent, label, attributes, text -/
abbrev nd : Type := Nat × Nat × Option Nat × List Int32 × List (List Nat × List Nat) × List Nat
/-- a list of objects at q, its array at d -/
def ja (dA : Nat → ClassId) (h : hm_T) (q d : Nat) (as : List Nat) : Prop := ∃ mo : Int32, h q = some (.inr (4, [.int mo, .ref d, .int (nI as.length)])) ∧ ((as = [] ∧ d = dA 99) ∨ (as ≠ [] ∧ ∃ (n : Nat) (f : Nat → Option Nat), h d = some (.inl (dA 6, n, .inr (.inr (.inr (.inr f))))) ∧ as.length ≤ n ∧ n ≤ 200 ∧ ∀ i, i < as.length → f i = some (as.getD i 0)))
def cp_lab (dA : Nat → ClassId) (h : hm_T) (l : Nat) (lab : List Int32) : Prop := ∃ f : Nat → Int32, h l = some (.inl (dA 0, lab.length, .inl f)) ∧ ∀ j, j < lab.length → f j = lab.getD j 0
def cp_at1 (h : hm_T) (z : hz_T) (x : Nat) (p : List Nat × List Nat) : Prop := ∃ p1 p2 u1 u2 : Nat, h x = some (.inr (9, [.ref p1, .ref p2])) ∧ z p1 = some (u1, p.1) ∧ z p2 = some (u2, p.2)
/-- the attributes; their cells aren't of Q -/
def cp_att (dA : Nat → ClassId) (h : hm_T) (z : hz_T) (Q : Nat → Prop) (q : Nat) (att : List (List Nat × List Nat)) : Prop := ∃ (d : Nat) (as : List Nat), ja dA h q d as ∧ ¬ Q q ∧ (as ≠ [] → ¬ Q d) ∧ as.length = att.length ∧ ∀ j, j < att.length → cp_at1 h z (as.getD j 0) (att.getD j ([], [])) ∧ ¬ Q (as.getD j 0)
/-- n nodes at B; tf tells where a node's text lies; nothing of them but the nodes is of Q -/
def cp_doc (dA : Nat → ClassId) (h : hm_T) (z : hz_T) (Q : Nat → Prop) (B : Nat → Nat) (J : Nat → Int32 × Option Nat × Int32 × Nat × Nat × Int32) (tf : Nat → Nat) (n : Nat) (D : Nat → nd) : Prop :=
  ∀ k, k < n → (J (B k)).1 = nI (D k).2.1 ∧ (J (B k)).2.1 = ((D k).2.2.1).map B ∧ (J (B k)).2.2.1 = nI (mp_dep (fun k => (D k).2.2.1) k) ∧ (J (B k)).2.2.2.2.2 = nI (D k).1 ∧ cp_lab dA h (J (B k)).2.2.2.1 (D k).2.2.2.1 ∧ ¬ Q (J (B k)).2.2.2.1 ∧ cp_att dA h z Q (J (B k)).2.2.2.2.1 (D k).2.2.2.2.1 ∧ ∃ u, z (tf (B k)) = some (u, (D k).2.2.2.2.2)
/-- what holds of n nodes -/
def nd_ok (mk n : Nat) (D : Nat → nd) : Prop := n ≤ 40 ∧ ∀ k, k < n → (D k).1 < mk ∧ (1 ≤ (D k).2.1 ∧ (D k).2.1 < 4) ∧ (∀ p, (D k).2.2.1 = some p → p < k) ∧ (D k).2.2.2.1.length ≤ 16 ∧ (D k).2.2.2.2.1.length ≤ 3 ∧ (∀ q ∈ (D k).2.2.2.2.1, q.1.length ≤ 6 ∧ q.2.length ≤ 20 ∧ (∀ c ∈ q.1, c < 128) ∧ ∀ c ∈ q.2, c < 128) ∧ (D k).2.2.2.2.2.length ≤ 20 ∧ (∀ c ∈ (D k).2.2.2.2.2, c < 128) ∧ ((D k).2.2.1 = none → k = 0)
/-- the cells that the class writes -/
def cp_Q (y bu bv sc sv fo a aM aO aE mk : Nat) (N : Nat → Nat) (b : Nat) : Prop := cp_X a aM aO aE mk N b ∨ b = y ∨ b = bu ∨ b = bv ∨ b = sc ∨ b = sv ∨ b = fo
/-- the class at y holds: mk made, n there (D), m kept (D2), the buffer xs, the found rs, ch changes -/
def cPIC (dA : Nat → ClassId) (y : Nat) (h : hm_T) (z : hz_T) (mk n : Nat) (D : Nat → nd) (m : Nat) (D2 : Nat → nd) (xs : List Nat) (rs : List Int32) (ch : Int32) : Prop :=
  ∃ (bu bv sc sv fo a aM aO aE : Nat) (N B E : Nat → Nat) (J : Nat → Int32 × Option Nat × Int32 × Nat × Nat × Int32) (V : Nat → Int32 × Nat × Nat) (ws : List Nat), cp_S h y bu sc a fo (nI rs.length) ch ∧ jb dA h bu bv xs ∧ jb dA h sc sv ws ∧ (∃ g : Nat → Int32, h fo = some (.inl (dA 0, 40, .inl g)) ∧ ∀ j, j < rs.length → g j = rs.getD j 0) ∧ cp_T dA h a aM aO aE mk n m N B E J V ∧ cp_P mk n N B J V ∧ cp_doc dA h z (cp_Q y bu bv sc sv fo a aM aO aE mk N) B J (fun x => (V x).2.1) n D ∧ cp_doc dA h z (cp_Q y bu bv sc sv fo a aM aO aE mk N) E J (fun x => (V x).2.2) m D2 ∧ bu ≠ sc ∧ bv ≠ sv ∧ bv ≠ fo ∧ sv ≠ fo
def nd_inj (n : Nat) (D : Nat → nd) : Prop := ∀ i j, i < n → j < n → (D i).1 = (D j).1 → i = j
/-- parents are elements, and what lies between a node and its parent lies below that parent -/
def nd_pre (n : Nat) (D : Nat → nd) : Prop := ∀ k, k < n → ∀ p, (D k).2.2.1 = some p → (D p).2.1 = 1 ∧ ∀ j, p < j → j < k → mp_dep (fun k => (D k).2.2.1) p < mp_dep (fun k => (D k).2.2.1) j
/-- the same of both: what the numbers are like -/
def aOK (mk n : Nat) (D : Nat → nd) (m : Nat) (D2 : Nat → nd) (xs : List Nat) (rs : List Int32) : Prop := nd_ok mk n D ∧ nd_ok mk m D2 ∧ mk ≤ 200 ∧ xs.length ≤ 120 ∧ (∀ c ∈ xs, 32 ≤ c ∧ c ≤ 126) ∧ rs.length ≤ 40 ∧ nd_inj m D2 ∧ nd_inj n D ∧ nd_pre n D ∧ nd_pre m D2
section PC1
variable {dA : Nat → ClassId} {h h1 : hm_T} {z z1 : hz_T} {y mk n m : Nat} {D D2 : Nat → nd} {xs : List Nat} {rs : List Int32} {ch : Int32}
theorem ja.mo {Y : Nat → Prop} {q d : Nat} {as : List Nat} (j : ja dA h q d as) (M : hm_mo h h1 Y) (hq : ¬ Y q) (hd : as ≠ [] → ¬ Y d) : ja dA h1 q d as := by
  obtain ⟨mo, c1, c2⟩ := j
  refine ⟨mo, M _ _ c1 hq, ?_⟩
  rcases c2 with c2 | ⟨e, n, f, c3, r⟩
  · exact Or.inl c2
  · exact Or.inr ⟨e, n, f, M _ _ c3 (hd e), r⟩
theorem cp_lab.mo {Y : Nat → Prop} {l : Nat} {lab : List Int32} (j : cp_lab dA h l lab) (M : hm_mo h h1 Y) (hl : ¬ Y l) : cp_lab dA h1 l lab := by
  obtain ⟨f, c1, c2⟩ := j
  exact ⟨f, M _ _ c1 hl, c2⟩
theorem cp_at1.mo {Y : Nat → Prop} {x : Nat} {p : List Nat × List Nat} (j : cp_at1 h z x p) (M : hm_mo h h1 Y) (Mz : hz_mo z z1) (hx : ¬ Y x) : cp_at1 h1 z1 x p := by
  obtain ⟨p1, p2, u1, u2, c1, c2, c3⟩ := j
  exact ⟨p1, p2, u1, u2, M _ _ c1 hx, Mz _ _ c2, Mz _ _ c3⟩
/-- the attributes behind a step that wrote in Y alone; Q2 is what is written from now on -/
theorem cp_att.mo {Y Q Q2 : Nat → Prop} {q : Nat} {att : List (List Nat × List Nat)} (j : cp_att dA h z Q q att) (M : hm_mo h h1 Y) (Mz : hz_mo z z1) (hY : ∀ b, Y b → Q b) (hQ : ∀ b e, h b = some e → ¬ Q b → ¬ Q2 b) : cp_att dA h1 z1 Q2 q att := by
  obtain ⟨d, as, j1, n1, n2, e, r⟩ := j
  have j1' := j1
  obtain ⟨mo, c1, c2⟩ := j1'
  refine ⟨d, as, j1.mo M (fun k => n1 (hY _ k)) (fun e k => n2 e (hY _ k)), hQ _ _ c1 n1, fun e => ?_, e, fun j hj => ?_⟩
  · rcases c2 with ⟨e2, _⟩ | ⟨_, n, f, c3, _⟩
    · exact absurd e2 e
    · exact hQ _ _ c3 (n2 e)
  · obtain ⟨r1, r2⟩ := r j hj
    have r1' := r1
    obtain ⟨p1, p2, u1, u2, c3, _⟩ := r1'
    exact ⟨r1.mo M Mz (fun k => r2 (hY _ k)), hQ _ _ c3 r2⟩
theorem cp_doc.mo {Y Q Q2 : Nat → Prop} {B : Nat → Nat} {J : Nat → Int32 × Option Nat × Int32 × Nat × Nat × Int32} {tf tf2 : Nat → Nat} (j : cp_doc dA h z Q B J tf n D) (M : hm_mo h h1 Y) (Mz : hz_mo z z1) (hY : ∀ b, Y b → Q b) (hQ : ∀ b e, h b = some e → ¬ Q b → ¬ Q2 b) (ht : ∀ k, k < n → tf2 (B k) = tf (B k)) : cp_doc dA h1 z1 Q2 B J tf2 n D := by
  intro k hk
  obtain ⟨a1, a2, a3, a4, a5, a6, a7, u, a8⟩ := j k hk
  have a5' := a5
  obtain ⟨f, c1, _⟩ := a5'
  exact ⟨a1, a2, a3, a4, a5.mo M (fun q => a6 (hY _ q)), hQ _ _ c1 a6, a7.mo M Mz hY hQ, u, by rw [ht k hk]; exact Mz _ _ a8⟩
end PC1
