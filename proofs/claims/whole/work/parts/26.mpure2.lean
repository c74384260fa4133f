-- order and depth of the reference
theorem mp_orderL {st : mT} {n j : Nat} {d : Nat → Nat} (h : mp_D st n d) (hj : j < n) (hi : ∀ a b, a < n → b < n → d a = d b → a = b) : ∀ (m fu k : Nat), k + m = j → m < fu → g_order_2 fu (nI (d j)) (nI k) st = some (nI j, st) := by
  intro m
  induction m with
  | zero =>
    intro fu k hk hf
    obtain ⟨f, rfl⟩ : ∃ f, fu = f + 1 := ⟨fu - 1, by omega⟩
    obtain rfl : k = j := by omega
    have h1 := h.1
    unfold g_order_2
    rw [mp_bd (mp_cnt h), if_neg (show ¬ nI n ≤ nI k from nI_ge (by omega) (by omega)), mp_bd (mp_dc h hj), if_pos rfl]
    rfl
  | succ m ih =>
    intro fu k hk hf
    obtain ⟨f, rfl⟩ : ∃ f, fu = f + 1 := ⟨fu - 1, by omega⟩
    have h1 := h.1
    have h2 := (h.2.2 k (by omega)).1
    have h3 := (h.2.2 j hj).1
    unfold g_order_2
    rw [mp_bd (mp_cnt h), if_neg (show ¬ nI n ≤ nI k from nI_ge (by omega) (by omega)), mp_bd (mp_dc h (by omega)), if_neg (show ¬ nI (d k) = nI (d j) from fun q => by have := hi k j (by omega) hj ((nI_eq (by omega) (by omega)).mp q); omega)]
    have := ih f (k + 1) (by omega) (by omega)
    rw [← nI_1] at this
    exact this
theorem mp_order {st : mT} {n j : Nat} {d : Nat → Nat} (h : mp_D st n d) (hj : j < n) (hi : ∀ a b, a < n → b < n → d a = d b → a = b) : g_order (nI (d j)) st = some (nI j, st) := by
  unfold g_order
  exact mp_orderL h hj hi j mF 0 (by omega) (by have := h.1; unfold mF; omega)
/-- the place of each node's parent -/
def mp_P (st : mT) (n : Nat) (d : Nat → Nat) (pa : Nat → Option Nat) : Prop := ∀ k, k < n → (∀ p, pa k = some p → p < k ∧ st.2.1 0 (128 * d k + 2) = nI (d p)) ∧ (pa k = none → st.2.1 0 (128 * d k + 2) = -1)
def mp_dp (pa : Nat → Option Nat) : Nat → Nat → Nat
  | 0, _ => 0
  | f + 1, k => match pa k with
    | none => 0
    | some p => mp_dp pa f p + 1
/-- how deep the node at place k lies -/
def mp_dep (pa : Nat → Option Nat) (k : Nat) : Nat := mp_dp pa (k + 1) k
theorem mp_dp_eq {pa : Nat → Option Nat} {n : Nat} (h : ∀ k, k < n → ∀ p, pa k = some p → p < k) : ∀ (f g k : Nat), k < n → k < f → k < g → mp_dp pa f k = mp_dp pa g k := by
  intro f
  induction f with
  | zero => intro g k _ h1; omega
  | succ f ih =>
    intro g k hn h1 h2
    obtain ⟨g, rfl⟩ : ∃ g', g = g' + 1 := ⟨g - 1, by omega⟩
    unfold mp_dp
    cases e : pa k with
    | none => rfl
    | some p =>
      have := h k hn p e
      show mp_dp pa f p + 1 = mp_dp pa g p + 1
      rw [ih g p (by omega) (by omega) (by omega)]
theorem mp_dep_none {pa : Nat → Option Nat} {k : Nat} (e : pa k = none) : mp_dep pa k = 0 := by
  unfold mp_dep mp_dp
  rw [e]
theorem mp_dep_some {pa : Nat → Option Nat} {n k p : Nat} (h : ∀ k, k < n → ∀ p, pa k = some p → p < k) (hk : k < n) (e : pa k = some p) : mp_dep pa k = mp_dep pa p + 1 := by
  have hp := h k hk p e
  have : mp_dep pa k = mp_dp pa k p + 1 := by
    unfold mp_dep
    rw [mp_dp]
    rw [e]
  rw [this]
  unfold mp_dep
  rw [mp_dp_eq h k (p + 1) p (by omega) (by omega) (by omega)]
theorem mp_dp_le {pa : Nat → Option Nat} {n : Nat} (h : ∀ k, k < n → ∀ p, pa k = some p → p < k) : ∀ (f k : Nat), k < n → mp_dp pa f k ≤ k := by
  intro f
  induction f with
  | zero => intro k _; exact Nat.zero_le _
  | succ f ih =>
    intro k hk
    unfold mp_dp
    cases e : pa k with
    | none => exact Nat.zero_le _
    | some p =>
      have h1 := h k hk p e
      have h2 := ih p (by omega)
      show mp_dp pa f p + 1 ≤ k
      omega
theorem mp_depL {st : mT} {n : Nat} {d : Nat → Nat} {pa : Nat → Option Nat} (h : mp_D st n d) (hP : mp_P st n d pa) : ∀ (f k a : Nat), k < n → k < f → g_depth_9 f (nI a) (st.2.1 0 (128 * d k + 2)) st = some (nI (a + mp_dep pa k), st) := by
  intro f
  induction f with
  | zero => intro k a _ h1; omega
  | succ f ih =>
    intro k a hk hf
    unfold g_depth_9
    cases e : pa k with
    | none =>
      rw [(hP k hk).2 e, if_pos (by decide), mp_dep_none e]
      rfl
    | some p =>
      obtain ⟨hp, h1⟩ := (hP k hk).1 p e
      have h2 := (h.2.2 p (by omega)).1
      rw [h1, if_neg (nI_pos (by omega)), mp_bd (show g_f (nI (d p)) 2 st = some (st.2.1 0 (128 * d p + 2), st) from mp_f st (o := 2) h2 (by decide))]
      have := ih p (a + 1) (by omega) (by omega)
      rw [← nI_1] at this
      show g_depth_9 f (nI a + 1) (st.2.1 0 (128 * d p + 2)) st = _
      rw [this, mp_dep_some (fun k hk p e => ((hP k hk).1 p e).1) hk e]
      congr 3
      omega
theorem mp_depth {st : mT} {n k : Nat} {d : Nat → Nat} {pa : Nat → Option Nat} (h : mp_D st n d) (hP : mp_P st n d pa) (hk : k < n) : g_depth (nI (d k)) st = some (nI (mp_dep pa k), st) := by
  unfold g_depth
  rw [mp_bd (show g_f (nI (d k)) 2 st = some (st.2.1 0 (128 * d k + 2), st) from mp_f st (o := 2) (h.2.2 k hk).1 (by decide))]
  have := mp_depL h hP mF k 0 hk (by have := h.1; unfold mF; omega)
  rw [Nat.zero_add] at this
  exact this
/-- where the node at place k ends: the next place that lies no deeper -/
def mp_endX (pa : Nat → Option Nat) (n x m e : Nat) : Nat := match mp_fst (fun j => decide (mp_dep pa j ≤ x)) m e with
  | some j => j
  | none => n
theorem mp_endL {st : mT} {n : Nat} {d : Nat → Nat} {pa : Nat → Option Nat} (h : mp_D st n d) (hP : mp_P st n d pa) {x : Nat} (hx : x < 1000) : ∀ (m fu e : Nat), e + m = n → m < fu → g_end_14 fu (nI x) (nI e) st = some (nI (mp_endX pa n x m e), st) := by
  intro m
  induction m with
  | zero =>
    intro fu e he hf
    obtain ⟨f, rfl⟩ : ∃ f, fu = f + 1 := ⟨fu - 1, by omega⟩
    obtain rfl : e = n := by omega
    have h1 := h.1
    unfold g_end_14
    rw [mp_bd (mp_cnt h), if_pos (show nI e ≤ nI e from nI_le (Nat.le_refl _) (by omega))]
    rfl
  | succ m ih =>
    intro fu e he hf
    obtain ⟨f, rfl⟩ : ∃ f, fu = f + 1 := ⟨fu - 1, by omega⟩
    have h1 := h.1
    have hd : mp_dep pa e ≤ e := mp_dp_le (fun k hk p e => ((hP k hk).1 p e).1) (e + 1) e (by omega)
    unfold g_end_14
    rw [mp_bd (mp_cnt h), if_neg (show ¬ nI n ≤ nI e from nI_ge (by omega) (by omega)), mp_bd (mp_dc h (by omega)), mp_bd (mp_depth h hP (by omega))]
    by_cases hc : mp_dep pa e ≤ x
    · rw [if_pos (show nI (mp_dep pa e) ≤ nI x from nI_le hc (by omega))]
      unfold mp_endX
      simp only [mp_fst, hc, decide_true, if_true]
      rfl
    · rw [if_neg (show ¬ nI (mp_dep pa e) ≤ nI x from nI_ge (by omega) (by omega))]
      have := ih f (e + 1) (by omega) (by omega)
      rw [← nI_1] at this
      show g_end_14 f (nI x) (nI e + 1) st = _
      rw [this]
      unfold mp_endX
      simp only [mp_fst, hc, decide_false]
      rfl
def mp_end (pa : Nat → Option Nat) (n k : Nat) : Nat := mp_endX pa n (mp_dep pa k) (n - (k + 1)) (k + 1)
theorem mp_gend {st : mT} {n k : Nat} {d : Nat → Nat} {pa : Nat → Option Nat} (h : mp_D st n d) (hP : mp_P st n d pa) (hk : k < n) : g_end (nI k) st = some (nI (mp_end pa n k), st) := by
  have h1 := h.1
  have hd : mp_dep pa k ≤ k := mp_dp_le (fun k hk p e => ((hP k hk).1 p e).1) (k + 1) k hk
  unfold g_end
  rw [mp_bd (mp_dc h hk), mp_bd (mp_depth h hP hk)]
  have := mp_endL h hP (x := mp_dep pa k) (by omega) (n - (k + 1)) mF (k + 1) (by omega) (by unfold mF; omega)
  rw [← nI_1] at this
  exact this
