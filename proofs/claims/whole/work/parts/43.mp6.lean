-- the reference: the document's array alone changes
theorem nI_sub {a b : Nat} (h : b ≤ a) : nI a - nI b = nI (a - b) := by
  have e : nI (a - b) + nI b = nI a := by rw [nI_add]; congr 1; omega
  rw [← e, Int32.add_sub_cancel]
/-- the state with this array of rows -/
def mp_a (st : mT) (g : Nat → Int32) : mT := (st.1, (fun j => if j = 0 then g else st.2.1 j), st.2.2)
theorem mp_a_g {st : mT} {g : Nat → Int32} : (mp_a st g).2.1 0 = g := rfl
theorem mp_a_1 {st : mT} {g : Nat → Int32} : (mp_a st g).1 = st.1 := rfl
theorem mp_a_k {st : mT} {g : Nat → Int32} {k : Nat} (h : k ≠ 0) : (mp_a st g).2.1 k = st.2.1 k := if_neg h
theorem mp_a_G {st : mT} {g : Nat → Int32} {i : Nat} {v : Int32} : mm_G (mp_a st g) 0 i v = mp_a st (upd g i v) := by
  unfold mm_G mp_a
  refine Prod.ext rfl (Prod.ext ?_ rfl)
  funext j
  by_cases q : j = 0
  · simp [q]
  · simp [q]
theorem mp_a_id (st : mT) : mp_a st (st.2.1 0) = st := by
  unfold mp_a
  refine Prod.ext rfl (Prod.ext ?_ rfl)
  funext j
  by_cases q : j = 0
  · simp [q]
  · simp [q]
theorem upd_s {g : Nat → Int32} {i : Nat} {v : Int32} : upd g i v i = v := by simp [upd]
theorem upd_n {g : Nat → Int32} {i j : Nat} {v : Int32} (h : j ≠ i) : upd g i v j = g j := by simp [upd, h]
/-- r rows from place f on are free -/
def mp_dz (g : Nat → Int32) (d : Nat → Nat) (f : Nat) : Nat → Nat → Int32
  | 0 => g
  | r + 1 => upd (mp_dz g d f r) (128 * d (f + r)) 0
theorem mp_dz_o {g : Nat → Int32} {d : Nat → Nat} {f : Nat} : ∀ (r i : Nat), (∀ j, j < r → i ≠ 128 * d (f + j)) → mp_dz g d f r i = g i := by
  intro r
  induction r with
  | zero => intro i _; rfl
  | succ r ih =>
    intro i hi
    unfold mp_dz
    rw [upd_n (hi r (by omega))]
    exact ih i (fun j hj => hi j (by omega))
theorem mp_dz_s {g : Nat → Int32} {d : Nat → Nat} {f : Nat} : ∀ (r j : Nat), j < r → mp_dz g d f r (128 * d (f + j)) = 0 := by
  intro r
  induction r with
  | zero => intro j hj; omega
  | succ r ih =>
    intro j hj
    unfold mp_dz
    by_cases q : 128 * d (f + j) = 128 * d (f + r)
    · rw [q, upd_s]
    · rw [upd_n q]
      refine ih j ?_
      have : j ≠ r := fun e => q (by rw [e])
      omega
/-- places from t to k moved down to f -/
def mp_ds (g : Nat → Int32) (f t k i : Nat) : Int32 := if 5120 + f ≤ i ∧ i < 5120 + f + (k - t) then g (i + (t - f)) else g i
theorem mp_dropE {st : mT} {g : Nat → Int32} {n f t : Nat} (hn : n ≤ 40) (hg : g 5160 = nI n) (hft : f ≤ t) (ht : t ≤ n) : ∀ (r fu k : Nat), k + r = n → t ≤ k → r < fu → g_drop_26 fu (nI f) (nI t) (nI k) (mp_a st (mp_ds g f t k)) = some (mp_a st (upd (mp_ds g f t n) 5160 (nI (n - (t - f))))) := by
  have hc : ∀ k, k ≤ n → mp_ds g f t k 5160 = nI n := fun k hk => by
    unfold mp_ds
    rw [if_neg (by omega)]
    exact hg
  intro r
  induction r with
  | zero =>
    intro fu k hk htk hr
    obtain ⟨fu, rfl⟩ : ∃ f, fu = f + 1 := ⟨fu - 1, by omega⟩
    obtain rfl : k = n := by omega
    unfold g_drop_26
    rw [mp_bd (mp_count _), mp_a_g, hc k (by omega)]
    simp only []
    rw [if_pos (nI_le (Nat.le_refl _) (by omega)), mp_bd (mp_count _), mp_a_g, hc k (by omega)]
    simp only []
    rw [nI_sub hft, nI_sub (show t - f ≤ k by omega), show (5160 : Int32) = nI 5160 from rfl, mp_ix (by decide) (by decide)]
    unfold mm_lt
    rw [mp_a_G]
  | succ r ih =>
    intro fu k hk htk hr
    obtain ⟨fu, rfl⟩ : ∃ f, fu = f + 1 := ⟨fu - 1, by omega⟩
    have e1 : (5120 : Int32) + nI f + nI k - nI t = nI (5120 + f + k - t) := by rw [show (5120 : Int32) = nI 5120 from rfl, nI_add, nI_add, nI_sub (by omega)]
    have e2 : mp_ds g f t k (5120 + k) = g (5120 + k) := by
      unfold mp_ds
      rw [if_neg (by omega)]
    have e3 : upd (mp_ds g f t k) (5120 + f + k - t) (g (5120 + k)) = mp_ds g f t (k + 1) := by
      funext i
      unfold upd mp_ds
      by_cases q : i = 5120 + f + k - t
      · rw [if_pos q, if_pos (by omega)]
        congr 1
        omega
      · rw [if_neg q]
        by_cases q2 : 5120 + f ≤ i ∧ i < 5120 + f + (k - t)
        · rw [if_pos q2, if_pos (by omega)]
        · rw [if_neg q2, if_neg (by omega)]
    unfold g_drop_26
    rw [mp_bd (mp_count _), mp_a_g, hc k (by omega)]
    simp only []
    rw [if_neg (nI_ge (by omega) (by omega)), mp_bd (mp_doc _ (by omega)), mp_a_g, e2]
    simp only []
    rw [e1, mp_ix (by omega) (by decide)]
    unfold mm_lt
    rw [mp_a_G, e3, nI_1]
    exact ih fu (k + 1) (by omega) (by omega) (by omega)
theorem mp_dropL {st : mT} {g : Nat → Int32} {n f t : Nat} {d : Nat → Nat} (hn : n ≤ 40) (hg : g 5160 = nI n) (hd : ∀ k, k < n → d k < 40 ∧ g (5120 + k) = nI (d k)) (hft : f ≤ t) (ht : t ≤ n) : ∀ (r fu k : Nat), k + r = t → f ≤ k → r < fu → g_drop_2 fu (nI f) (nI t) (nI k) (mp_a st (mp_dz g d f (k - f))) = some (mp_a st (upd (mp_ds (mp_dz g d f (t - f)) f t n) 5160 (nI (n - (t - f))))) := by
  intro r
  induction r with
  | zero =>
    intro fu k hk hfk hr
    obtain ⟨fu, rfl⟩ : ∃ f, fu = f + 1 := ⟨fu - 1, by omega⟩
    obtain rfl : k = t := by omega
    have h0 : mp_dz g d f (k - f) 5160 = nI n := by
      rw [mp_dz_o _ _ (fun j hj => by have := (hd (f + j) (by omega)).1; omega)]
      exact hg
    unfold g_drop_2
    rw [if_pos (nI_le (Nat.le_refl _) (by omega))]
    have := mp_dropE (st := st) hn h0 hft ht (n - k) mF k (by omega) (Nat.le_refl _) (by unfold mF; omega)
    rw [← this]
    congr 2
    funext i
    unfold mp_ds
    rw [if_neg (by omega)]
  | succ r ih =>
    intro fu k hk hfk hr
    obtain ⟨fu, rfl⟩ : ∃ f, fu = f + 1 := ⟨fu - 1, by omega⟩
    have h1 := hd k (by omega)
    have e2 : mp_dz g d f (k - f) (5120 + k) = nI (d k) := by
      rw [mp_dz_o _ _ (fun j hj => by have := (hd (f + j) (by omega)).1; omega)]
      exact h1.2
    unfold g_drop_2
    rw [if_neg (nI_ge (by omega) (by omega)), mp_bd (mp_doc _ (by omega)), mp_a_g, e2]
    simp only []
    have hs : g_set (nI (d k)) 0 0 (mp_a st (mp_dz g d f (k - f))) = some (mm_G (mp_a st (mp_dz g d f (k - f))) 0 (128 * d k + 0) 0) := mp_set _ (o := 0) 0 h1.1 (by decide)
    rw [mp_bd hs, mp_a_G, nI_1]
    have := ih fu (k + 1) (by omega) (by omega) (by omega)
    rw [← this, show k + 1 - f = (k - f) + 1 by omega, show mp_dz g d f (k - f + 1) = upd (mp_dz g d f (k - f)) (128 * d (f + (k - f))) 0 from rfl, show f + (k - f) = k by omega]
    rfl
theorem mp_drop {st : mT} {n f t : Nat} {d : Nat → Nat} (h : mp_D st n d) (hft : f ≤ t) (ht : t ≤ n) : g_drop (nI f) (nI t) st = some (mp_a st (upd (mp_ds (mp_dz (st.2.1 0) d f (t - f)) f t n) 5160 (nI (n - (t - f))))) := by
  have hn := h.1
  unfold g_drop
  have := mp_dropL (st := st) h.1 h.2.1 h.2.2 hft ht (t - f) mF f (by omega) (Nat.le_refl _) (by unfold mF; omega)
  rw [← this, Nat.sub_self, show mp_dz (st.2.1 0) d f 0 = st.2.1 0 from rfl, mp_a_id]
