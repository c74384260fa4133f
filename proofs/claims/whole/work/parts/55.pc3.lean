-- the class's picture behind commit, crash, type, the buffer's use
section PC3
variable {dA : Nat → ClassId} {h h1 : hm_T} {z z1 : hz_T} {y mk n m : Nat} {D D2 : Nat → nd} {xs : List Nat} {rs : List Int32} {ch : Int32} {a aM aO aE : Nat} {N B E : Nat → Nat} {J : Nat → Int32 × Option Nat × Int32 × Nat × Nat × Int32} {V : Nat → Int32 × Nat × Nat} {Q : Nat → Prop} {tf : Nat → Nat}
theorem cp_kp_1 : ∀ (k x : Nat), (cp_kp V B k x).1 = (V x).1 ∧ (cp_kp V B k x).2.1 = (V x).2.1 := by
  intro k
  induction k with
  | zero => intro x; exact ⟨rfl, rfl⟩
  | succ k ih =>
    intro x
    unfold cp_kp cp_up
    by_cases q : x = B k
    · rw [if_pos q, ← q]; exact ih x
    · rw [if_neg q]; exact ih x
theorem cp_kp_2 : ∀ (k j : Nat), j < k → (cp_kp V B k (B j)).2.2 = (V (B j)).2.1 := by
  intro k
  induction k with
  | zero => intro j hj; omega
  | succ k ih =>
    intro j hj
    unfold cp_kp cp_up
    by_cases q : B j = B k
    · rw [if_pos q, ← q]; exact (cp_kp_1 k (B j)).2
    · rw [if_neg q]
      refine ih j ?_
      have : j ≠ k := fun e => q (by rw [e])
      omega
theorem cp_gb_1 : ∀ (k x : Nat), (cp_gb V E k x).1 = (V x).1 ∧ (cp_gb V E k x).2.2 = (V x).2.2 := by
  intro k
  induction k with
  | zero => intro x; exact ⟨rfl, rfl⟩
  | succ k ih =>
    intro x
    unfold cp_gb cp_up
    by_cases q : x = E k
    · rw [if_pos q, ← q]; exact ih x
    · rw [if_neg q]; exact ih x
theorem cp_gb_2 : ∀ (k j : Nat), j < k → (cp_gb V E k (E j)).2.1 = (V (E j)).2.2 := by
  intro k
  induction k with
  | zero => intro j hj; omega
  | succ k ih =>
    intro j hj
    unfold cp_gb cp_up
    by_cases q : E j = E k
    · rw [if_pos q, ← q]; exact (cp_gb_1 k (E j)).2
    · rw [if_neg q]
      refine ih j ?_
      have : j ≠ k := fun e => q (by rw [e])
      omega
theorem cp_so_2 {f : Nat} : ∀ (r x : Nat), (cp_so V B f r x).2 = (V x).2 := by
  intro r
  induction r with
  | zero => intro x; rfl
  | succ r ih =>
    intro x
    unfold cp_so cp_up
    by_cases q : x = B (f + r)
    · rw [if_pos q, ← q]; exact ih x
    · rw [if_neg q]; exact ih x
theorem cp_so_1 {f : Nat} : ∀ (r j : Nat), j < r → (cp_so V B f r (B (f + j))).1 = -1 := by
  intro r
  induction r with
  | zero => intro j hj; omega
  | succ r ih =>
    intro j hj
    unfold cp_so cp_up
    by_cases q : B (f + j) = B (f + r)
    · rw [if_pos q]
    · rw [if_neg q]
      refine ih j ?_
      have : j ≠ r := fun e => q (by rw [e])
      omega
theorem cp_so_o {f : Nat} : ∀ (r x : Nat), (∀ j, j < r → B (f + j) ≠ x) → cp_so V B f r x = V x := by
  intro r
  induction r with
  | zero => intro x _; rfl
  | succ r ih =>
    intro x hx
    unfold cp_so cp_up
    rw [if_neg (Ne.symm (hx r (by omega)))]
    exact ih x (fun j hj => hx j (by omega))
theorem pc_commit (I : cPIC dA y h z mk n D m D2 xs rs ch) {K : Int32 → hm_T → hz_T → Prop} (hK : ∀ h1, cPIC dA y h1 z mk n D n D xs rs 0 → K ch h1 z) : w_Store_commit dA y K h z := by
  obtain ⟨bu, bv, sc, sv, fo, a, aM, aO, aE, N, B, E, J, V, ws, S, jB, jS, ⟨g, jF, jG⟩, T, P, d, d2, r⟩ := I
  refine cp_commit S T (fun h1 S1 T1 M1 => hK h1 ?_)
  obtain ⟨mb, nb, fb, b1, b2, br⟩ := id jB
  obtain ⟨ms, ns, fs, s1, s2, sr⟩ := id jS
  have hY : ∀ b, (cp_X a aM aO aE mk N b ∨ b = y) → cp_Q y bu bv sc sv fo a aM aO aE mk N b := fun b q => q.elim Or.inl (fun q => Or.inr (Or.inl q))
  have hn : ∀ {b : Nat} {e : va_E}, h b = some e → Nat.beq (hm_tag e) 1 = false → Nat.beq (hm_tag e) 8 = false → Nat.beq (hm_tag e) 104 = false → Nat.beq (hm_tag e) 0 = false → ¬ (cp_X a aM aO aE mk N b ∨ b = y) := fun hb t1 t8 t104 t0 q => q.elim (cp_nX T hb t1 t8 t104) (hm_ne hb S t0)
  refine ⟨bu, bv, sc, sv, fo, a, aM, aO, aE, N, B, B, J, cp_kp V B n, ws, S1, jB.mo M1 (hn b1 rfl rfl rfl rfl) (hn b2 rfl rfl rfl rfl), jS.mo M1 (hn s1 rfl rfl rfl rfl) (hn s2 rfl rfl rfl rfl), ⟨g, M1 _ _ jF (hn jF rfl rfl rfl rfl), jG⟩, T1, ⟨P.1, fun k hk => ?_, fun i hi q => ?_⟩, d.mo M1 hz_mo.refl hY (fun b e _ q => q) (fun k hk => (cp_kp_1 n (B k)).2), d.mo M1 hz_mo.refl hY (fun b e _ q => q) (fun k hk => cp_kp_2 n k hk), r⟩
  · rw [(cp_kp_1 n (B k)).1]; exact P.2.1 k hk
  · rw [(cp_kp_1 n (N i)).1]; exact P.2.2 i hi q
theorem pc_crash (I : cPIC dA y h z mk n D m D2 xs rs ch) (ok : aOK mk n D m D2 xs rs) {c s : Nat} (hc : 1 ≤ c) (hs : 142 ≤ s) {K : Int32 → hm_T → hz_T → Prop} (hK : ∀ h1, cPIC dA y h1 z mk m D2 m D2 [] rs 0 → K ch h1 z) : w_Store_crash dA y c s K h z := by
  obtain ⟨bu, bv, sc, sv, fo, a, aM, aO, aE, N, B, E, J, V, ws, S, jB, jS, ⟨g, jF, jG⟩, T, P, d, d2, r1, r2, r3, r4⟩ := I
  refine cp_crash S jB T hc hs (fun h1 S1 jB1 T1 M1 => hK h1 ?_)
  obtain ⟨mb, nb, fb, b1, b2, br⟩ := id jB
  obtain ⟨ms, ns, fs, s1, s2, sr⟩ := id jS
  have hY : ∀ b, (cp_X a aM aO aE mk N b ∨ b = y ∨ b = bu) → cp_Q y bu bv sc sv fo a aM aO aE mk N b := fun b q => q.elim Or.inl (fun q => Or.inr (q.elim Or.inl (fun q => Or.inr (Or.inl q))))
  have hn : ∀ {b : Nat} {e : va_E}, h b = some e → Nat.beq (hm_tag e) 1 = false → Nat.beq (hm_tag e) 8 = false → Nat.beq (hm_tag e) 104 = false → Nat.beq (hm_tag e) 0 = false → b ≠ bu → ¬ (cp_X a aM aO aE mk N b ∨ b = y ∨ b = bu) := fun hb t1 t8 t104 t0 nb q => q.elim (cp_nX T hb t1 t8 t104) (fun q => q.elim (hm_ne hb S t0) nb)
  have hE : ∀ i j, i < m → j < m → E i = E j → i = j := by
    intro i j hi hj e
    have e1 := (d2 i hi).2.2.2.1
    have e2 := (d2 j hj).2.2.2.1
    rw [e, e2] at e1
    have o1 := (ok.2.1.2 i hi).1
    have o2 := (ok.2.1.2 j hj).1
    have om := ok.2.2.1
    exact ok.2.2.2.2.2.2.1 i j hi hj ((nI_eq (by omega) (by omega)).mp e1).symm
  refine ⟨bu, bv, sc, sv, fo, a, aM, aO, aE, N, E, E, J, _, ws, S1, jB1, jS.mo M1 (hn s1 rfl rfl rfl rfl (Ne.symm r1)) (hn s2 rfl rfl rfl rfl (hm_ne s2 b1 rfl)), ⟨g, M1 _ _ jF (hn jF rfl rfl rfl rfl (hm_ne jF b1 rfl)), jG⟩, T1, ⟨P.1, fun k hk => ?_, fun i hi q => ?_⟩, d2.mo M1 hz_mo.refl hY (fun b e _ q => q) (fun k hk => ?_), d2.mo M1 hz_mo.refl hY (fun b e _ q => q) (fun k hk => ?_), r1, r2, r3, r4⟩
  · rw [(cp_kp_1 m (E k)).1]
    exact cp_sp_1 hE m (Nat.le_refl _) k hk
  · rw [(cp_kp_1 m (N i)).1, cp_sp_o m (N i) (fun j hj => q j hj), (cp_gb_1 m (N i)).1]
    by_cases hb : ∃ k, k < n ∧ B k = N i
    · obtain ⟨k, hk, e⟩ := hb
      rw [← e]
      have := cp_so_1 (V := V) (B := B) (f := 0) n k hk
      rw [Nat.zero_add] at this
      exact this
    · rw [cp_so_o n (N i) (fun j hj q => hb ⟨j, hj, by rw [Nat.zero_add] at q; exact q⟩)]
      exact P.2.2 i hi (fun k hk q => hb ⟨k, hk, q⟩)
  · show (cp_kp _ E m (E k)).2.1 = (V (E k)).2.2
    rw [(cp_kp_1 m (E k)).2, cp_sp_2 m (E k), cp_gb_2 m k hk, cp_so_2]
  · show (cp_kp _ E m (E k)).2.2 = (V (E k)).2.2
    rw [cp_kp_2 m k hk, cp_sp_2 m (E k), cp_gb_2 m k hk, cp_so_2]
/-- behind a step that wrote the buffer alone -/
theorem pc_buf {bu bv sc sv fo : Nat} {ws xs2 : List Nat} {u : Nat} (S : cp_S h y bu sc a fo (nI rs.length) ch) (jB : jb dA h bu bv xs) (jS : jb dA h sc sv ws) (jF : ∃ g : Nat → Int32, h fo = some (.inl (dA 0, 40, .inl g)) ∧ ∀ j, j < rs.length → g j = rs.getD j 0) (T : cp_T dA h a aM aO aE mk n m N B E J V) (P : cp_P mk n N B J V) (d : cp_doc dA h z (cp_Q y bu bv sc sv fo a aM aO aE mk N) B J (fun x => (V x).2.1) n D) (d2 : cp_doc dA h z (cp_Q y bu bv sc sv fo a aM aO aE mk N) E J (fun x => (V x).2.2) m D2) (r : bu ≠ sc ∧ bv ≠ sv ∧ bv ≠ fo ∧ sv ≠ fo) (jB1 : jb dA h1 bu u xs2) (hu : u = bv ∨ h u = none) (M : hm_mo h h1 (fun b => b = bu ∨ b = bv)) (Mz : hz_mo z z1) : cPIC dA y h1 z1 mk n D m D2 xs2 rs ch := by
  obtain ⟨mb, nb, fb, b1, b2, br⟩ := id jB
  obtain ⟨ms, ns, fs, s1, s2, sr⟩ := id jS
  obtain ⟨g, jF, jG⟩ := jF
  have hY : ∀ b, (b = bu ∨ b = bv) → cp_Q y bu bv sc sv fo a aM aO aE mk N b := fun b q => Or.inr (Or.inr (q.elim Or.inl (fun q => Or.inr (Or.inl q))))
  have hQ : ∀ (b : Nat) (e : va_E), h b = some e → ¬ cp_Q y bu bv sc sv fo a aM aO aE mk N b → ¬ cp_Q y bu u sc sv fo a aM aO aE mk N b := by
    intro b e hb nq q
    rcases q with q | q | q | q | q | q | q
    · exact nq (Or.inl q)
    · exact nq (Or.inr (Or.inl q))
    · exact nq (Or.inr (Or.inr (Or.inl q)))
    · rcases hu with k | k
      · exact nq (Or.inr (Or.inr (Or.inr (Or.inl (q.trans k)))))
      · rw [q, k] at hb; cases hb
    · exact nq (Or.inr (Or.inr (Or.inr (Or.inr (Or.inl q)))))
    · exact nq (Or.inr (Or.inr (Or.inr (Or.inr (Or.inr (Or.inl q))))))
    · exact nq (Or.inr (Or.inr (Or.inr (Or.inr (Or.inr (Or.inr q))))))
  have nu : ∀ {b : Nat} {e : va_E}, h b = some e → bv ≠ b → u ≠ b := by
    intro b e hb nb q
    rcases hu with k | k
    · exact nb (k.symm.trans q)
    · rw [← q, k] at hb; cases hb
  refine ⟨bu, u, sc, sv, fo, a, aM, aO, aE, N, B, E, J, V, ws, M _ _ S (fun q => q.elim (hm_ne S b1 rfl) (hm_ne S b2 rfl)), jB1, jS.mo M (fun q => q.elim (Ne.symm r.1) (hm_ne s1 b2 rfl)) (fun q => q.elim (hm_ne s2 b1 rfl) (Ne.symm r.2.1)), ⟨g, M _ _ jF (fun q => q.elim (hm_ne jF b1 rfl) (Ne.symm r.2.2.1)), jG⟩, T.mo M (fun b hb q => ?_), P, d.mo M Mz hY hQ (fun _ _ => rfl), d2.mo M Mz hY hQ (fun _ _ => rfl), r.1, nu s2 r.2.1, nu jF r.2.2.1, r.2.2.2⟩
  rcases q with q | q
  · subst q; exact cp_nX T b1 rfl rfl rfl hb
  · subst q; exact cp_nX T b2 rfl rfl rfl hb
theorem pc_type (I : cPIC dA y h z mk n D m D2 xs rs ch) {c s : Nat} (hc : 1 ≤ c) (hs : 142 ≤ s) {x : Int32} {K : Int32 → hm_T → hz_T → Prop} (h0 : x < 32 ∨ 126 < x ∨ 120 ≤ xs.length → K 0 h z) (hK : ∀ (q : Nat), x = nI q → 32 ≤ q → q ≤ 126 → xs.length < 120 → ∀ h1, cPIC dA y h1 z mk n D m D2 (xs ++ [q]) rs ch → K 1 h1 z) : w_Store_type dA y x c s K h z := by
  obtain ⟨bu, bv, sc, sv, fo, a, aM, aO, aE, N, B, E, J, V, ws, S, jB, jS, jF, T, P, d, d2, r⟩ := I
  exact cp_type S jB hc hs h0 (fun q e1 e2 e3 e4 h1 u jB1 hu M => hK q e1 e2 e3 e4 h1 (pc_buf S jB jS jF T P d d2 r jB1 hu M hz_mo.refl))
theorem pc_useBuffer (I : cPIC dA y h z mk n D m D2 xs rs ch) {c s : Nat} (hc : 3 ≤ c) (hs : 288 ≤ s) {K : Option Nat → hm_T → hz_T → Prop} (hK : ∀ (t : Nat) (h1 : hm_T) (z1 : hz_T), (∃ u, z1 t = some (u, xs)) → cPIC dA y h1 z1 mk n D m D2 [] rs ch → K (some t) h1 z1) : w_Store_useBuffer dA y c s K h z := by
  obtain ⟨bu, bv, sc, sv, fo, a, aM, aO, aE, N, B, E, J, V, ws, S, jB, jS, jF, T, P, d, d2, r⟩ := I
  exact cp_useBuffer S jB hc hs (fun t h1 z1 e1 jB1 M Mz => hK t h1 z1 e1 (pc_buf S jB jS jF T P d d2 r jB1 (Or.inl rfl) (M.weak (fun b q => Or.inl q)) Mz))
end PC3
