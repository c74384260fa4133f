-- siblings in the reference
/-- the last place below k where P holds -/
def mp_lst (P : Nat → Bool) : Nat → Option Nat
  | 0 => none
  | k + 1 => if P k then some k else mp_lst P k
def mp_pc (st : mT) (d : Nat → Nat) (k : Nat) : Int32 := st.2.1 0 (128 * d k + 2)
def mp_sl (d : Nat → Nat) (o : Option Nat) : Int32 := match o with
  | some j => nI (d j)
  | none => -1
theorem mp_fpc {st : mT} {n k : Nat} {d : Nat → Nat} (h : mp_D st n d) (hk : k < n) : g_f (nI (d k)) 2 st = some (mp_pc st d k, st) := mp_f st (o := 2) (h.2.2 k hk).1 (by decide)
theorem mp_sibF {st : mT} {n j : Nat} {d : Nat → Nat} (h : mp_D st n d) (hj : j < n) : ∀ (m fu k : Nat), k + m = n → m < fu → g_sibling_8 fu (nI (d j)) 1 (nI k) st = some (mp_sl d (mp_fst (fun k => decide (mp_pc st d k = mp_pc st d j)) m k), st) := by
  intro m
  induction m with
  | zero =>
    intro fu k hk hf
    obtain ⟨f, rfl⟩ : ∃ f, fu = f + 1 := ⟨fu - 1, by omega⟩
    have h1 := h.1
    unfold g_sibling_8
    rw [if_neg (nI_pos (by omega)), mp_bd (mp_cnt h), if_pos (show nI n ≤ nI k from nI_le (by omega) (by omega))]
    rfl
  | succ m ih =>
    intro fu k hk hf
    obtain ⟨f, rfl⟩ : ∃ f, fu = f + 1 := ⟨fu - 1, by omega⟩
    have h1 := h.1
    unfold g_sibling_8
    rw [if_neg (nI_pos (by omega)), mp_bd (mp_cnt h), if_neg (show ¬ nI n ≤ nI k from nI_ge (by omega) (by omega)), mp_bd (mp_dc h (by omega)), mp_bd (mp_fpc h (by omega)), mp_bd (mp_fpc h hj)]
    by_cases hc : mp_pc st d k = mp_pc st d j
    · rw [if_pos hc, mp_bd (mp_dc h (by omega))]
      simp only [mp_fst, hc, decide_true, if_true]
      rfl
    · rw [if_neg hc]
      have := ih f (k + 1) (by omega) (by omega)
      rw [← nI_1] at this
      show g_sibling_8 f (nI (d j)) 1 (nI k + 1) st = _
      rw [this]
      simp only [mp_fst, hc, decide_false]
      rfl
theorem mp_sibB {st : mT} {n j : Nat} {d : Nat → Nat} (h : mp_D st n d) (hj : j < n) : ∀ (k fu : Nat), k ≤ n → k < fu → g_sibling_8 fu (nI (d j)) (-1) (nI k + -1) st = some (mp_sl d (mp_lst (fun k => decide (mp_pc st d k = mp_pc st d j)) k), st) := by
  intro k
  induction k with
  | zero =>
    intro fu hk hf
    obtain ⟨f, rfl⟩ : ∃ f, fu = f + 1 := ⟨fu - 1, by omega⟩
    unfold g_sibling_8
    rw [if_pos (show nI 0 + -1 < 0 by decide)]
    rfl
  | succ k ih =>
    intro fu hk hf
    obtain ⟨f, rfl⟩ : ∃ f, fu = f + 1 := ⟨fu - 1, by omega⟩
    have h1 := h.1
    have e : nI (k + 1) + -1 = nI k := by rw [← nI_pred k, Int32.sub_eq_add_neg]
    rw [e]
    unfold g_sibling_8
    rw [if_neg (nI_pos (by omega)), mp_bd (mp_cnt h), if_neg (show ¬ nI n ≤ nI k from nI_ge (by omega) (by omega)), mp_bd (mp_dc h (by omega)), mp_bd (mp_fpc h (by omega)), mp_bd (mp_fpc h hj)]
    by_cases hc : mp_pc st d k = mp_pc st d j
    · rw [if_pos hc, mp_bd (mp_dc h (by omega))]
      simp only [mp_lst, hc, decide_true, if_true]
      rfl
    · rw [if_neg hc]
      have := ih f (by omega) (by omega)
      show g_sibling_8 f (nI (d j)) (-1) (nI k + -1) st = _
      rw [this]
      simp only [mp_lst, hc, decide_false]
      rfl
theorem mp_sibR {st : mT} {n j : Nat} {d : Nat → Nat} (h : mp_D st n d) (hj : j < n) (hi : ∀ a b, a < n → b < n → d a = d b → a = b) : g_sibling (nI (d j)) 1 st = some (mp_sl d (mp_fst (fun k => decide (mp_pc st d k = mp_pc st d j)) (n - (j + 1)) (j + 1)), st) := by
  have h1 := h.1
  unfold g_sibling
  rw [mp_bd (mp_order h hj hi)]
  have := mp_sibF h hj (n - (j + 1)) mF (j + 1) (by omega) (by unfold mF; omega)
  rw [← nI_1] at this
  exact this
theorem mp_sibL {st : mT} {n j : Nat} {d : Nat → Nat} (h : mp_D st n d) (hj : j < n) (hi : ∀ a b, a < n → b < n → d a = d b → a = b) : g_sibling (nI (d j)) (-1) st = some (mp_sl d (mp_lst (fun k => decide (mp_pc st d k = mp_pc st d j)) j), st) := by
  have h1 := h.1
  unfold g_sibling
  rw [mp_bd (mp_order h hj hi)]
  exact mp_sibB h hj j mF (by omega) (by unfold mF; omega)
