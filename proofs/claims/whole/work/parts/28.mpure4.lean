-- siblings in the reference
/-- the last place below k where P holds -/
def mp_lst (P : Nat → Bool) : Nat → Option Nat
  | 0 => none
  | k + 1 => if P k then some k else mp_lst P k
def mp_pc (st : mT) (d : Nat → Nat) (k : Nat) : Int32 := st.2.1 0 (128 * d k + 2)
def mp_sl (d : Nat → Nat) (o : Option Nat) : Int32 := match o with
  | some j => nI (d j)
  | none => -1
theorem mp_fpc {st : mT} {n k : Nat} {d : Nat → Nat} (h : mp_D st n d) (hk : k < n) : g_f (nI (d k)) 2 st = some (mp_pc st d k, st) := mp_f st (o := 2) (h.2.2 k hk).1 (by decide)
theorem mp_sibF {st : mT} {n j : Nat} {d : Nat → Nat} (h : mp_D st n d) (hj : j < n) : ∀ (m fu k : Nat), k + m = n → m < fu → g_sibling_8 fu (nI (d j)) 1 (nI k) st = some (mp_sl d (mp_fst (fun k => decide (mp_pc st d k = mp_pc st d j)) m k), st) := by
  intro m
  induction m with
  | zero =>
    intro fu k hk hf
    obtain ⟨f, rfl⟩ : ∃ f, fu = f + 1 := ⟨fu - 1, by omega⟩
    have h1 := h.1
    unfold g_sibling_8
    rw [if_neg (nI_pos (by omega)), mp_bd (mp_cnt h), if_pos (show nI n ≤ nI k from nI_le (by omega) (by omega))]
    rfl
  | succ m ih =>
    intro fu k hk hf
    obtain ⟨f, rfl⟩ : ∃ f, fu = f + 1 := ⟨fu - 1, by omega⟩
    have h1 := h.1
    unfold g_sibling_8
    rw [if_neg (nI_pos (by omega)), mp_bd (mp_cnt h), if_neg (show ¬ nI n ≤ nI k from nI_ge (by omega) (by omega)), mp_bd (mp_dc h (by omega)), mp_bd (mp_fpc h (by omega)), mp_bd (mp_fpc h hj)]
    by_cases hc : mp_pc st d k = mp_pc st d j
    · rw [if_pos hc, mp_bd (mp_dc h (by omega))]
      simp only [mp_fst, hc, decide_true, if_true]
      rfl
    · rw [if_neg hc]
      have := ih f (k + 1) (by omega) (by omega)
      rw [← nI_1] at this
      show g_sibling_8 f (nI (d j)) 1 (nI k + 1) st = _
      rw [this]
      simp only [mp_fst, hc, decide_false]
      rfl
theorem mp_sibB {st : mT} {n j : Nat} {d : Nat → Nat} (h : mp_D st n d) (hj : j < n) : ∀ (k fu : Nat), k ≤ n → k < fu → g_sibling_8 fu (nI (d j)) (-1) (nI k + -1) st = some (mp_sl d (mp_lst (fun k => decide (mp_pc st d k = mp_pc st d j)) k), st) := by
  intro k
  induction k with
  | zero =>
    intro fu hk hf
    obtain ⟨f, rfl⟩ : ∃ f, fu = f + 1 := ⟨fu - 1, by omega⟩
    unfold g_sibling_8
    rw [if_pos (show nI 0 + -1 < 0 by decide)]
    rfl
  | succ k ih =>
    intro fu hk hf
    obtain ⟨f, rfl⟩ : ∃ f, fu = f + 1 := ⟨fu - 1, by omega⟩
    have h1 := h.1
    have e : nI (k + 1) + -1 = nI k := by rw [← nI_pred k, Int32.sub_eq_add_neg]
    rw [e]
    unfold g_sibling_8
    rw [if_neg (nI_pos (by omega)), mp_bd (mp_cnt h), if_neg (show ¬ nI n ≤ nI k from nI_ge (by omega) (by omega)), mp_bd (mp_dc h (by omega)), mp_bd (mp_fpc h (by omega)), mp_bd (mp_fpc h hj)]
    by_cases hc : mp_pc st d k = mp_pc st d j
    · rw [if_pos hc, mp_bd (mp_dc h (by omega))]
      simp only [mp_lst, hc, decide_true, if_true]
      rfl
    · rw [if_neg hc]
      have := ih f (by omega) (by omega)
      show g_sibling_8 f (nI (d j)) (-1) (nI k + -1) st = _
      rw [this]
      simp only [mp_lst, hc, decide_false]
      rfl
theorem mp_sibR {st : mT} {n j : Nat} {d : Nat → Nat} (h : mp_D st n d) (hj : j < n) (hi : ∀ a b, a < n → b < n → d a = d b → a = b) : g_sibling (nI (d j)) 1 st = some (mp_sl d (mp_fst (fun k => decide (mp_pc st d k = mp_pc st d j)) (n - (j + 1)) (j + 1)), st) := by
  have h1 := h.1
  unfold g_sibling
  rw [mp_bd (mp_order h hj hi)]
  have := mp_sibF h hj (n - (j + 1)) mF (j + 1) (by omega) (by unfold mF; omega)
  rw [← nI_1] at this
  exact this
theorem mp_sibL {st : mT} {n j : Nat} {d : Nat → Nat} (h : mp_D st n d) (hj : j < n) (hi : ∀ a b, a < n → b < n → d a = d b → a = b) : g_sibling (nI (d j)) (-1) st = some (mp_sl d (mp_lst (fun k => decide (mp_pc st d k = mp_pc st d j)) j), st) := by
  have h1 := h.1
  unfold g_sibling
  rw [mp_bd (mp_order h hj hi)]
  exact mp_sibB h hj j mF (by omega) (by unfold mF; omega)
/-- the first place below k where P holds -/
def mp_f1 (P : Nat → Bool) : Nat → Option Nat
  | 0 => none
  | k + 1 => match mp_f1 P k with
    | some j => some j
    | none => if P k then some k else none
theorem mp_f1_lt {P : Nat → Bool} : ∀ (k : Nat) {j : Nat}, mp_f1 P k = some j → j < k := by
  intro k
  induction k with
  | zero => intro j h; cases h
  | succ k ih =>
    intro j h
    unfold mp_f1 at h
    cases e : mp_f1 P k with
    | some i =>
      rw [e] at h
      cases h
      have := ih e
      omega
    | none =>
      rw [e] at h
      by_cases hc : P k = true
      · have h : (if P k = true then some k else none) = some j := h
        rw [if_pos hc] at h
        cases h
        omega
      · have h : (if P k = true then some k else none) = some j := h
        rw [if_neg hc] at h
        cases h
theorem mp_chF {st : mT} {n : Nat} {d : Nat → Nat} (h : mp_D st n d) (x : Int32) : ∀ (m fu k : Nat), k + m = n → m < fu → g_child_5 fu x 1 (mp_sl d (mp_f1 (fun k => decide (mp_pc st d k = x)) k)) (nI k) st = some (mp_sl d (mp_f1 (fun k => decide (mp_pc st d k = x)) n), st) := by
  intro m
  induction m with
  | zero =>
    intro fu k hk hf
    obtain ⟨f, rfl⟩ : ∃ f, fu = f + 1 := ⟨fu - 1, by omega⟩
    obtain rfl : k = n := by omega
    have h1 := h.1
    unfold g_child_5
    rw [mp_bd (mp_cnt h), if_pos (show nI k ≤ nI k from nI_le (Nat.le_refl _) (by omega))]
  | succ m ih =>
    intro fu k hk hf
    obtain ⟨f, rfl⟩ : ∃ f, fu = f + 1 := ⟨fu - 1, by omega⟩
    have h1 := h.1
    have ih2 := ih f (k + 1) (by omega) (by omega)
    rw [← nI_1] at ih2
    unfold g_child_5
    rw [mp_bd (mp_cnt h), if_neg (show ¬ nI n ≤ nI k from nI_ge (by omega) (by omega)), mp_bd (mp_dc h (by omega)), mp_bd (mp_fpc h (by omega))]
    by_cases hc : mp_pc st d k = x
    · rw [if_pos hc]
      cases e : mp_f1 (fun k => decide (mp_pc st d k = x)) k with
      | none =>
        rw [if_pos (show mp_sl d none < 0 by show (-1 : Int32) < 0; decide)]
        unfold g_child_37 g_child_47
        rw [mp_bd (mp_dc h (by omega))]
        rw [← ih2]
        simp only [mp_f1, e, hc, decide_true, if_true]
        rfl
      | some j =>
        have hj := (h.2.2 j (by have := mp_f1_lt k e; omega)).1
        rw [if_neg (show ¬ mp_sl d (some j) < 0 from nI_pos (by omega)), if_pos (by decide)]
        unfold g_child_46 g_child_47
        rw [← ih2]
        simp only [mp_f1, e]
    · rw [if_neg hc]
      unfold g_child_46 g_child_47
      rw [← ih2]
      cases e : mp_f1 (fun k => decide (mp_pc st d k = x)) k with
      | none =>
        simp only [mp_f1, e, hc, decide_false]
        rfl
      | some j => simp only [mp_f1, e]
theorem mp_child1 {st : mT} {n : Nat} {d : Nat → Nat} (h : mp_D st n d) (x : Int32) : g_child x 1 st = some (mp_sl d (mp_f1 (fun k => decide (mp_pc st d k = x)) n), st) := by
  unfold g_child
  exact mp_chF h x n mF 0 (by omega) (by have := h.1; unfold mF; omega)
theorem mp_chB {st : mT} {n : Nat} {d : Nat → Nat} (h : mp_D st n d) (x : Int32) : ∀ (m fu k : Nat), k + m = n → m < fu → g_child_5 fu x (-1) (mp_sl d (mp_lst (fun k => decide (mp_pc st d k = x)) k)) (nI k) st = some (mp_sl d (mp_lst (fun k => decide (mp_pc st d k = x)) n), st) := by
  intro m
  induction m with
  | zero =>
    intro fu k hk hf
    obtain ⟨f, rfl⟩ : ∃ f, fu = f + 1 := ⟨fu - 1, by omega⟩
    obtain rfl : k = n := by omega
    have h1 := h.1
    unfold g_child_5
    rw [mp_bd (mp_cnt h), if_pos (show nI k ≤ nI k from nI_le (Nat.le_refl _) (by omega))]
  | succ m ih =>
    intro fu k hk hf
    obtain ⟨f, rfl⟩ : ∃ f, fu = f + 1 := ⟨fu - 1, by omega⟩
    have h1 := h.1
    have ih2 := ih f (k + 1) (by omega) (by omega)
    rw [← nI_1] at ih2
    unfold g_child_5
    rw [mp_bd (mp_cnt h), if_neg (show ¬ nI n ≤ nI k from nI_ge (by omega) (by omega)), mp_bd (mp_dc h (by omega)), mp_bd (mp_fpc h (by omega))]
    by_cases hc : mp_pc st d k = x
    · rw [if_pos hc, if_neg (show ¬ (0 : Int32) ≤ -1 by decide), ite_self]
      unfold g_child_37 g_child_47
      rw [mp_bd (mp_dc h (by omega))]
      rw [← ih2]
      simp only [mp_lst, hc, decide_true, if_true]
      rfl
    · rw [if_neg hc]
      unfold g_child_46 g_child_47
      rw [← ih2]
      simp only [mp_lst, hc, decide_false]
      rfl
theorem mp_childL {st : mT} {n : Nat} {d : Nat → Nat} (h : mp_D st n d) (x : Int32) : g_child x (-1) st = some (mp_sl d (mp_lst (fun k => decide (mp_pc st d k = x)) n), st) := by
  unfold g_child
  exact mp_chB h x n mF 0 (by omega) (by have := h.1; unfold mF; omega)
/-- how many of the places below k hold P -/
def mp_cn (P : Nat → Bool) : Nat → Nat
  | 0 => 0
  | k + 1 => if P k then mp_cn P k + 1 else mp_cn P k
theorem mp_kidsB {st : mT} {n : Nat} {d : Nat → Nat} (h : mp_D st n d) (x : Int32) : ∀ (m fu k : Nat), k + m = n → m < fu → g_kids_23 fu x 1 (nI (mp_cn (fun k => decide (mp_pc st d k = x)) k)) (nI n) (nI k) st = some (nI (mp_cn (fun k => decide (mp_pc st d k = x)) n), st) := by
  intro m
  induction m with
  | zero =>
    intro fu k hk hf
    obtain ⟨f, rfl⟩ : ∃ f, fu = f + 1 := ⟨fu - 1, by omega⟩
    obtain rfl : k = n := by omega
    have h1 := h.1
    unfold g_kids_23
    rw [if_pos (show nI k ≤ nI k from nI_le (Nat.le_refl _) (by omega))]
  | succ m ih =>
    intro fu k hk hf
    obtain ⟨f, rfl⟩ : ∃ f, fu = f + 1 := ⟨fu - 1, by omega⟩
    have h1 := h.1
    have ih2 := ih f (k + 1) (by omega) (by omega)
    rw [← nI_1] at ih2
    unfold g_kids_23
    rw [if_neg (show ¬ nI n ≤ nI k from nI_ge (by omega) (by omega)), mp_bd (mp_dc h (by omega)), mp_bd (mp_fpc h (by omega)), if_neg (show ¬ (1 : Int32) = 0 by decide)]
    unfold g_kids_55 g_kids_65
    by_cases hc : mp_pc st d k = x
    · rw [if_pos hc, ← ih2, nI_1]
      simp only [mp_cn, hc, decide_true, if_true]
    · rw [if_neg hc, ← ih2]
      simp only [mp_cn, hc, decide_false]
      rfl
theorem mp_kids1 {st : mT} {n : Nat} {d : Nat → Nat} (h : mp_D st n d) (x : Int32) : g_kids x 1 st = some (nI (mp_cn (fun k => decide (mp_pc st d k = x)) n), st) := by
  unfold g_kids
  rw [if_neg (show ¬ (1 : Int32) = 0 by decide), mp_bd (mp_cnt h)]
  exact mp_kidsB h x n mF 0 (by omega) (by have := h.1; unfold mF; omega)
theorem mp_kidsA {st : mT} {n j : Nat} {d : Nat → Nat} (h : mp_D st n d) (hj : j < n) : ∀ (m fu k : Nat), k + m = j → m < fu → g_kids_23 fu (nI (d j)) 0 (nI (mp_cn (fun k => decide (mp_pc st d k = mp_pc st d j)) k)) (nI j) (nI k) st = some (nI (mp_cn (fun k => decide (mp_pc st d k = mp_pc st d j)) j), st) := by
  intro m
  induction m with
  | zero =>
    intro fu k hk hf
    obtain ⟨f, rfl⟩ : ∃ f, fu = f + 1 := ⟨fu - 1, by omega⟩
    obtain rfl : k = j := by omega
    have h1 := h.1
    unfold g_kids_23
    rw [if_pos (show nI k ≤ nI k from nI_le (Nat.le_refl _) (by omega))]
  | succ m ih =>
    intro fu k hk hf
    obtain ⟨f, rfl⟩ : ∃ f, fu = f + 1 := ⟨fu - 1, by omega⟩
    have h1 := h.1
    have ih2 := ih f (k + 1) (by omega) (by omega)
    rw [← nI_1] at ih2
    unfold g_kids_23
    rw [if_neg (show ¬ nI j ≤ nI k from nI_ge (by omega) (by omega)), mp_bd (mp_dc h (by omega)), mp_bd (mp_fpc h (by omega)), if_pos rfl, mp_bd (mp_fpc h hj)]
    unfold g_kids_55 g_kids_65
    by_cases hc : mp_pc st d k = mp_pc st d j
    · rw [if_pos hc, ← ih2, nI_1]
      simp only [mp_cn, hc, decide_true, if_true]
    · rw [if_neg hc, ← ih2]
      simp only [mp_cn, hc, decide_false]
      rfl
theorem mp_kids0 {st : mT} {n j : Nat} {d : Nat → Nat} (h : mp_D st n d) (hj : j < n) (hi : ∀ a b, a < n → b < n → d a = d b → a = b) : g_kids (nI (d j)) 0 st = some (nI (mp_cn (fun k => decide (mp_pc st d k = mp_pc st d j)) j), st) := by
  unfold g_kids
  rw [if_pos rfl, mp_bd (mp_order h hj hi)]
  exact mp_kidsA h hj j mF 0 (by omega) (by have := h.1; unfold mF; omega)
