-- what the reference's pure programs answer: the small ones
theorem mp_ld {β : Type} {G : Nat → Int32} {n i : Nat} {K : Int32 → Option β} (h : i < n) (hn : n < 2 ^ 31) : mm_ld G n (nI i) K = K (G i) := by
  unfold mm_ld
  rw [if_neg (nI_pos (by omega)), nI_clamp (by omega), if_pos h]
theorem mp_ix {β : Type} {n i : Nat} {K : Nat → Option β} (h : i < n) (hn : n < 2 ^ 31) : mm_ix n (nI i) K = K i := by
  unfold mm_ix
  rw [if_neg (nI_pos (by omega)), nI_clamp (by omega), if_pos h]
theorem mp_mul {a b : Nat} : nI a * nI b = nI (a * b) := (Int32.ofNat_mul a b).symm
theorem mp_count (st : mT) : g_count st = some (st.2.1 0 5160, st) := by
  unfold g_count
  exact mp_ld (i := 5160) (by decide) (by decide)
theorem mp_f (st : mT) {s o : Nat} (hs : s < 40) (ho : o < 128) : g_f (nI s) (nI o) st = some (st.2.1 0 (128 * s + o), st) := by
  unfold g_f
  rw [show (128 : Int32) * nI s + nI o = nI (128 * s + o) from by rw [show (128 : Int32) = nI 128 from rfl, mp_mul, nI_add]]
  exact mp_ld (by omega) (by decide)
theorem mp_set (st : mT) {s o : Nat} (v : Int32) (hs : s < 40) (ho : o < 128) : g_set (nI s) (nI o) v st = some (mm_G st 0 (128 * s + o) v) := by
  unfold g_set
  rw [show (128 : Int32) * nI s + nI o = nI (128 * s + o) from by rw [show (128 : Int32) = nI 128 from rfl, mp_mul, nI_add]]
  exact mp_ix (by omega) (by decide)
theorem mp_doc (st : mT) {k : Nat} (hk : k < 41) : g_doc (nI k) st = some (st.2.1 0 (5120 + k), st) := by
  unfold g_doc
  rw [show (5120 : Int32) + nI k = nI (5120 + k) from by rw [show (5120 : Int32) = nI 5120 from rfl, nI_add]]
  exact mp_ld (by omega) (by decide)
