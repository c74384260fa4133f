-- what the reference's pure programs answer: the small ones
theorem mp_ld {β : Type} {G : Nat → Int32} {n i : Nat} {K : Int32 → Option β} (h : i < n) (hn : n < 2 ^ 31) : mm_ld G n (nI i) K = K (G i) := by
  unfold mm_ld
  rw [if_neg (nI_pos (by omega)), nI_clamp (by omega), if_pos h]
theorem mp_ix {β : Type} {n i : Nat} {K : Nat → Option β} (h : i < n) (hn : n < 2 ^ 31) : mm_ix n (nI i) K = K i := by
  unfold mm_ix
  rw [if_neg (nI_pos (by omega)), nI_clamp (by omega), if_pos h]
theorem mp_mul {a b : Nat} : nI a * nI b = nI (a * b) := (Int32.ofNat_mul a b).symm
theorem mp_count (st : mT) : g_count st = some (st.2.1 0 5160, st) := by
  unfold g_count
  exact mp_ld (i := 5160) (by decide) (by decide)
theorem mp_f (st : mT) {s o : Nat} (hs : s < 40) (ho : o < 128) : g_f (nI s) (nI o) st = some (st.2.1 0 (128 * s + o), st) := by
  unfold g_f
  rw [show (128 : Int32) * nI s + nI o = nI (128 * s + o) from by rw [show (128 : Int32) = nI 128 from rfl, mp_mul, nI_add]]
  exact mp_ld (by omega) (by decide)
theorem mp_set (st : mT) {s o : Nat} (v : Int32) (hs : s < 40) (ho : o < 128) : g_set (nI s) (nI o) v st = some (mm_G st 0 (128 * s + o) v) := by
  unfold g_set
  rw [show (128 : Int32) * nI s + nI o = nI (128 * s + o) from by rw [show (128 : Int32) = nI 128 from rfl, mp_mul, nI_add]]
  exact mp_ix (by omega) (by decide)
theorem mp_doc (st : mT) {k : Nat} (hk : k < 41) : g_doc (nI k) st = some (st.2.1 0 (5120 + k), st) := by
  unfold g_doc
  rw [show (5120 : Int32) + nI k = nI (5120 + k) from by rw [show (5120 : Int32) = nI 5120 from rfl, nI_add]]
  exact mp_ld (by omega) (by decide)
/-- the first of m places from k on where P holds -/
def mp_fst (P : Nat → Bool) : Nat → Nat → Option Nat
  | 0, _ => none
  | m + 1, k => if P k then some k else mp_fst P m (k + 1)
/-- n places in the document, the k-th node in row d k -/
def mp_D (st : mT) (n : Nat) (d : Nat → Nat) : Prop := n ≤ 40 ∧ st.2.1 0 5160 = nI n ∧ ∀ k, k < n → d k < 40 ∧ st.2.1 0 (5120 + k) = nI (d k)
theorem mp_bd {α β : Type} {f : Option α} {a : α} {K : α → Option β} (h : f = some a) : f.bind K = K a := by rw [h]; rfl
theorem mp_cnt {st : mT} {n : Nat} {d : Nat → Nat} (h : mp_D st n d) : g_count st = some (nI n, st) := by rw [mp_count, h.2.1]
theorem mp_dc {st : mT} {n k : Nat} {d : Nat → Nat} (h : mp_D st n d) (hk : k < n) : g_doc (nI k) st = some (nI (d k), st) := by rw [mp_doc st (by have := h.1; omega), (h.2.2 k hk).2]
theorem mp_placeL {st : mT} {n : Nat} {d : Nat → Nat} (h : mp_D st n d) (i : Int32) : ∀ (m fu k : Nat), k + m = n → m < fu → g_place_2 fu i (nI k) st = some ((match mp_fst (fun k => decide (st.2.1 0 (128 * d k) - 1 = i)) m k with | some j => nI (d j) | none => -1), st) := by
  intro m
  induction m with
  | zero =>
    intro fu k hk hf
    obtain ⟨f, rfl⟩ : ∃ f, fu = f + 1 := ⟨fu - 1, by omega⟩
    have h1 := h.1
    unfold g_place_2
    rw [mp_bd (mp_cnt h), if_pos (show nI n ≤ nI k from nI_le (by omega) (by omega))]
    rfl
  | succ m ih =>
    intro fu k hk hf
    obtain ⟨f, rfl⟩ : ∃ f, fu = f + 1 := ⟨fu - 1, by omega⟩
    have h1 := h.1
    have h2 := h.2.2 k (by omega)
    have hF : g_f (nI (d k)) 0 st = some (st.2.1 0 (128 * d k), st) := mp_f st (o := 0) h2.1 (by decide)
    unfold g_place_2
    rw [mp_bd (mp_cnt h), if_neg (show ¬ nI n ≤ nI k from nI_ge (by omega) (by omega)), mp_bd (mp_dc h (by omega)), mp_bd hF]
    by_cases hc : st.2.1 0 (128 * d k) - 1 = i
    · rw [if_pos hc, mp_bd (mp_dc h (by omega))]
      simp only [mp_fst, hc, decide_true, if_true]
    · rw [if_neg hc]
      have := ih f (k + 1) (by omega) (by omega)
      rw [← nI_1] at this
      rw [this]
      simp only [mp_fst, hc, decide_false]
      rfl
theorem mp_place {st : mT} {n : Nat} {d : Nat → Nat} (h : mp_D st n d) (i : Int32) : g_place i st = some ((match mp_fst (fun k => decide (st.2.1 0 (128 * d k) - 1 = i)) n 0 with | some j => nI (d j) | none => -1), st) := by
  unfold g_place
  exact mp_placeL h i n mF 0 (by omega) (by have := h.1; unfold mF; omega)
