-- writing out: what is written
def o_put (w : Int32) (s : Int32 × Int32) (c : Nat) : Int32 × Int32 := (s.1 + 1, if s.1 = w then nI c else s.2)
def o_all (w : Int32) (s : Int32 × Int32) (L : List Nat) : Int32 × Int32 := L.foldl (o_put w) s
theorem o_all_app {w : Int32} {s : Int32 × Int32} {L M : List Nat} : o_all w s (L ++ M) = o_all w (o_all w s L) M := List.foldl_append ..
theorem o_all_cons {w : Int32} {s : Int32 × Int32} {c : Nat} {M : List Nat} : o_all w s (c :: M) = o_all w (o_put w s c) M := rfl
def a_esc (q : Nat) (ent : List Nat) (c : Nat) : List Nat := if c = 38 then [38, 97, 109, 112, 59] else if c = 60 then [38, 108, 116, 59] else if c = q then ent else [c]
def a_val (q : Nat) (ent t : List Nat) : List Nat := t.flatMap (a_esc q ent)
def a_qu : List Nat := [38, 113, 117, 111, 116, 59]
def a_gt : List Nat := [38, 103, 116, 59]
def a_att (p : List Nat × List Nat) : List Nat := 32 :: (p.1 ++ ([61, 34] ++ (a_val 34 a_qu p.2 ++ [34])))
def a_tag (x : nd) : List Nat := 60 :: (x.2.2.2.2.2 ++ x.2.2.2.2.1.flatMap a_att)
def a_cl (x : nd) : List Nat := [60, 47] ++ (x.2.2.2.2.2 ++ [62])
/-- what a node begins with -/
def a_pc (n : Nat) (D : Nat → nd) (k : Nat) : List Nat := if (D k).2.1 = 1 then a_tag (D k) ++ (if k + 1 < a_end n D k then [62] else [47, 62]) else if (D k).2.1 = 2 then a_val 62 a_gt (D k).2.2.2.2.2 else [60, 33, 45, 45] ++ ((D k).2.2.2.2.2 ++ [45, 45, 62])
/-- the ends from o up to below q -/
def a_close (D : Nat → nd) (q : Option Nat) : Nat → Option Nat → List Nat
  | 0, _ => []
  | f + 1, o => match o with
    | none => []
    | some k => if some k = q then [] else a_cl (D k) ++ a_close D q f (D k).2.2.1
def a_next (n : Nat) (D : Nat → nd) (k : Nat) : Option Nat := if (D k).2.1 = 1 ∧ k + 1 < a_end n D k then some k else (D k).2.2.1
/-- r nodes from place k on, with o open -/
def a_wr (n : Nat) (D : Nat → nd) : Nat → Nat → Option Nat → List Nat
  | 0, _, o => a_close D none 50 o
  | r + 1, k, o => a_close D (D k).2.2.1 50 o ++ (a_pc n D k ++ a_wr n D r (k + 1) (a_next n D k))
/-- the ends that stand right behind the node at place k -/
def a_up (n : Nat) (D : Nat → nd) (k : Nat) : Nat → Option Nat → List Nat
  | 0, _ => []
  | f + 1, o => match o with
    | none => []
    | some e => if a_end n D e = k + 1 then a_cl (D e) ++ a_up n D k f (D e).2.2.1 else []
def a_rf (n : Nat) (D : Nat → nd) : Nat → Nat → List Nat
  | 0, _ => []
  | r + 1, k => a_pc n D k ++ ((if a_end n D k = k + 1 then a_up n D k 50 (D k).2.2.1 else []) ++ a_rf n D r (k + 1))
section PO1
variable {mk n : Nat} {D : Nat → nd}
/-- behind c: who is its parent ends here too, or is the parent of what follows -/
theorem a_chain (ok : nd_ok mk n D) (pre : nd_pre n D) {k : Nat} (hk : k ≤ n) : ∀ (f g c : Nat) (o : Option Nat), c < k → c < f → c < g → a_end n D c = k → (D c).2.2.1 = o → a_close D (if k < n then (D k).2.2.1 else none) f o = a_up n D (k - 1) g o := by
  have h1 : ∀ k, k < n → ∀ p, (fun k => (D k).2.2.1) k = some p → p < k := fun k hk p hp => (ok.2 k hk).2.2.1 p hp
  intro f
  induction f with
  | zero => intro g c o _ hf; omega
  | succ f ih =>
    intro g c o hck hf hg he ho
    obtain ⟨g, rfl⟩ : ∃ x, g = x + 1 := ⟨g - 1, by omega⟩
    cases o with
    | none => rfl
    | some e =>
      have hc : c < n := by omega
      have hec := h1 c hc e ho
      have hen : e < n := by omega
      have sc := mp_end_spec (pa := fun k => (D k).2.2.1) hc
      have se := mp_end_spec (pa := fun k => (D k).2.2.1) hen
      have dc := mp_dep_some (pa := fun k => (D k).2.2.1) h1 hc ho
      have pc := pre c hc e ho
      unfold a_end at he
      rw [he] at sc
      have low : ∀ j, e < j → j < k → mp_dep (fun k => (D k).2.2.1) e < mp_dep (fun k => (D k).2.2.1) j := fun j a1 a2 => by
        rcases Nat.lt_trichotomy j c with w | w | w
        · exact pc.2 j a1 w
        · rw [w]; omega
        · have := sc.2.2.1 j w a2; omega
      have hge : k ≤ mp_end (fun k => (D k).2.2.1) n e := by
        rcases Nat.lt_or_ge (mp_end (fun k => (D k).2.2.1) n e) k with w | w
        · have a1 := low _ se.1 w
          have a2 := se.2.2.2 (by omega)
          omega
        · exact w
      show (if some e = (if k < n then (D k).2.2.1 else none) then [] else a_cl (D e) ++ a_close D (if k < n then (D k).2.2.1 else none) f (D e).2.2.1) = if a_end n D e = k - 1 + 1 then a_cl (D e) ++ a_up n D (k - 1) g (D e).2.2.1 else []
      rw [show k - 1 + 1 = k by omega]
      by_cases q : a_end n D e = k
      · rw [if_pos q]
        have hne : ¬ some e = (if k < n then (D k).2.2.1 else none) := by
          by_cases w : k < n
          · rw [if_pos w]
            intro w2
            have d1 := mp_dep_some (pa := fun k => (D k).2.2.1) h1 w w2.symm
            have q2 : mp_end (fun k => (D k).2.2.1) n e = k := q
            rw [q2] at se
            have := se.2.2.2 w
            omega
          · rw [if_neg w]; simp
        rw [if_neg hne, ih g e _ (by omega) (by omega) (by omega) q rfl]
      · rw [if_neg q]
        have q2 : k < mp_end (fun k => (D k).2.2.1) n e := by
          rcases Nat.lt_or_ge k (mp_end (fun k => (D k).2.2.1) n e) with w | w
          · exact w
          · exact absurd (by unfold a_end; omega) q
        have hkn : k < n := by omega
        have dk := se.2.2.1 k (by omega) q2
        rw [if_pos hkn]
        cases ep : (D k).2.2.1 with
        | none =>
          have := (ok.2 k hkn).2.2.2.2.2.2.2.2 ep
          omega
        | some p =>
          have hp := h1 k hkn p ep
          have dp := mp_dep_some (pa := fun k => (D k).2.2.1) h1 hkn ep
          have pp := (pre k hkn p ep).2
          have : p = e := by
            rcases Nat.lt_trichotomy p e with w | w | w
            · have := pp e w (by omega); omega
            · exact w
            · exfalso
              have d1 := low p w hp
              rcases Nat.lt_trichotomy p c with w2 | w2 | w2
              · have := pp c w2 hck; omega
              · subst w2
                have := sc.2.2.2 hkn; omega
              · have a1 := sc.2.2.1 p w2 hp
                have a2 := sc.2.2.2 hkn
                omega
          rw [this, if_pos rfl]
/-- who has nodes below it is the parent of what follows -/
theorem a_first (ok : nd_ok mk n D) (pre : nd_pre n D) {k : Nat} (hk : k < n) (h : k + 1 < a_end n D k) : k + 1 < n ∧ (D (k + 1)).2.2.1 = some k ∧ (D k).2.1 = 1 := by
  have h1 : ∀ k, k < n → ∀ p, (fun k => (D k).2.2.1) k = some p → p < k := fun k hk p hp => (ok.2 k hk).2.2.1 p hp
  have s := mp_end_spec (pa := fun k => (D k).2.2.1) hk
  unfold a_end at h
  have hn : k + 1 < n := by omega
  have d1 := s.2.2.1 (k + 1) (by omega) h
  cases ep : (D (k + 1)).2.2.1 with
  | none =>
    have := (ok.2 (k + 1) hn).2.2.2.2.2.2.2.2 ep
    omega
  | some p =>
    have hp := h1 (k + 1) hn p ep
    have dp := mp_dep_some (pa := fun k => (D k).2.2.1) h1 hn ep
    have e : p = k := by
      rcases Nat.lt_or_ge p k with w | w
      · have := (pre (k + 1) hn p ep).2 k w (by omega); omega
      · omega
    subst e
    exact ⟨hn, rfl, (pre (p + 1) hn p ep).1⟩
theorem a_wr_rf (ok : nd_ok mk n D) (pre : nd_pre n D) : ∀ (r k : Nat), k + r = n → 0 < k → a_wr n D r k (a_next n D (k - 1)) = (if a_end n D (k - 1) = k then a_up n D (k - 1) 50 (D (k - 1)).2.2.1 else []) ++ a_rf n D r k := by
  have hn := ok.1
  have core : ∀ k, 0 < k → k ≤ n → a_close D (if k < n then (D k).2.2.1 else none) 50 (a_next n D (k - 1)) = if a_end n D (k - 1) = k then a_up n D (k - 1) 50 (D (k - 1)).2.2.1 else [] := by
    intro k h0 hk
    have s := mp_end_spec (pa := fun k => (D k).2.2.1) (show k - 1 < n by omega)
    by_cases q : a_end n D (k - 1) = k
    · rw [if_pos q, show a_next n D (k - 1) = (D (k - 1)).2.2.1 from if_neg (fun w => by have := w.2; omega)]
      exact a_chain ok pre hk 50 50 (k - 1) _ (by omega) (by omega) (by omega) q rfl
    · have h2 : k - 1 + 1 < a_end n D (k - 1) := by
        have := s.1
        unfold a_end at q ⊢
        omega
      obtain ⟨f1, f2, f3⟩ := a_first ok pre (show k - 1 < n by omega) h2
      rw [show k - 1 + 1 = k by omega] at f1 f2
      rw [if_neg q, if_pos f1, f2, show a_next n D (k - 1) = some (k - 1) from if_pos ⟨f3, h2⟩]
      show (if some (k - 1) = some (k - 1) then [] else _) = []
      rw [if_pos rfl]
  intro r
  induction r with
  | zero =>
    intro k hk h0
    have := core k h0 (by omega)
    rw [if_neg (by omega)] at this
    show a_close D none 50 (a_next n D (k - 1)) = _ ++ []
    rw [this, List.append_nil]
  | succ r ih =>
    intro k hk h0
    have := core k h0 (by omega)
    rw [if_pos (by omega)] at this
    show a_close D (D k).2.2.1 50 (a_next n D (k - 1)) ++ (a_pc n D k ++ a_wr n D r (k + 1) (a_next n D k)) = _ ++ (a_pc n D k ++ (_ ++ a_rf n D r (k + 1)))
    have i1 := ih (k + 1) (by omega) (by omega)
    rw [show k + 1 - 1 = k by omega] at i1
    rw [this, i1]
/-- both ways write the same -/
theorem a_wr_eq (ok : nd_ok mk n D) (pre : nd_pre n D) : a_wr n D n 0 none = a_rf n D n 0 := by
  cases hn : n with
  | zero => rfl
  | succ m =>
    have := a_wr_rf ok pre m 1 (by omega) (by omega)
    rw [hn] at this
    show a_close D (D 0).2.2.1 50 none ++ (a_pc (m + 1) D 0 ++ a_wr (m + 1) D m 1 (a_next (m + 1) D 0)) = a_pc (m + 1) D 0 ++ (_ ++ a_rf (m + 1) D m 1)
    rw [show (1 : Nat) - 1 = 0 from rfl] at this
    rw [this]
    rfl
end PO1
