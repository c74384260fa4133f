-- order and depth of the reference
theorem mp_orderL {st : mT} {n j : Nat} {d : Nat → Nat} (h : mp_D st n d) (hj : j < n) (hi : ∀ a b, a < n → b < n → d a = d b → a = b) : ∀ (m fu k : Nat), k + m = j → m < fu → g_order_2 fu (nI (d j)) (nI k) st = some (nI j, st) := by
  intro m
  induction m with
  | zero =>
    intro fu k hk hf
    obtain ⟨f, rfl⟩ : ∃ f, fu = f + 1 := ⟨fu - 1, by omega⟩
    obtain rfl : k = j := by omega
    have h1 := h.1
    unfold g_order_2
    rw [mp_bd (mp_cnt h), if_neg (show ¬ nI n ≤ nI k from nI_ge (by omega) (by omega)), mp_bd (mp_dc h hj), if_pos rfl]
    rfl
  | succ m ih =>
    intro fu k hk hf
    obtain ⟨f, rfl⟩ : ∃ f, fu = f + 1 := ⟨fu - 1, by omega⟩
    have h1 := h.1
    have h2 := (h.2.2 k (by omega)).1
    have h3 := (h.2.2 j hj).1
    unfold g_order_2
    rw [mp_bd (mp_cnt h), if_neg (show ¬ nI n ≤ nI k from nI_ge (by omega) (by omega)), mp_bd (mp_dc h (by omega)), if_neg (show ¬ nI (d k) = nI (d j) from fun q => by have := hi k j (by omega) hj ((nI_eq (by omega) (by omega)).mp q); omega)]
    have := ih f (k + 1) (by omega) (by omega)
    rw [← nI_1] at this
    exact this
theorem mp_order {st : mT} {n j : Nat} {d : Nat → Nat} (h : mp_D st n d) (hj : j < n) (hi : ∀ a b, a < n → b < n → d a = d b → a = b) : g_order (nI (d j)) st = some (nI j, st) := by
  unfold g_order
  exact mp_orderL h hj hi j mF 0 (by omega) (by have := h.1; unfold mF; omega)
/-- the place of each node's parent -/
def mp_P (st : mT) (n : Nat) (d : Nat → Nat) (pa : Nat → Option Nat) : Prop := ∀ k, k < n → (∀ p, pa k = some p → p < k ∧ st.2.1 0 (128 * d k + 2) = nI (d p)) ∧ (pa k = none → st.2.1 0 (128 * d k + 2) = -1)
def mp_dp (pa : Nat → Option Nat) : Nat → Nat → Nat
  | 0, _ => 0
  | f + 1, k => match pa k with
    | none => 0
    | some p => mp_dp pa f p + 1
/-- how deep the node at place k lies -/
def mp_dep (pa : Nat → Option Nat) (k : Nat) : Nat := mp_dp pa (k + 1) k
theorem mp_dp_eq {pa : Nat → Option Nat} {n : Nat} (h : ∀ k, k < n → ∀ p, pa k = some p → p < k) : ∀ (f g k : Nat), k < n → k < f → k < g → mp_dp pa f k = mp_dp pa g k := by
  intro f
  induction f with
  | zero => intro g k _ h1; omega
  | succ f ih =>
    intro g k hn h1 h2
    obtain ⟨g, rfl⟩ : ∃ g', g = g' + 1 := ⟨g - 1, by omega⟩
    unfold mp_dp
    cases e : pa k with
    | none => rfl
    | some p =>
      have := h k hn p e
      show mp_dp pa f p + 1 = mp_dp pa g p + 1
      rw [ih g p (by omega) (by omega) (by omega)]
