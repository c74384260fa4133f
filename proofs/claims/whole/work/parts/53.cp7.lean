-- the class: type, the buffer's use, crash
section CP7
variable {dA : Nat → ClassId} {h h1 : hm_T} {z : hz_T} {y bu bv sc fo a aM aO aE mk n m : Nat} {fs ch : Int32} {N B E : Nat → Nat} {J : Nat → Int32 × Option Nat × Int32 × Nat × Nat × Int32} {V : Nat → Int32 × Nat × Nat} {xs : List Nat}
theorem cp_blen (j : jb dA h a bv xs) {c s : Nat} {K : Int32 → hm_T → hz_T → Prop} (hK : K (nI xs.length) h z) : w_SB_length dA a c s K h z := by
  obtain ⟨mb, n, f, c1, c2, r⟩ := j
  unfold w_SB_length
  refine cg_c_of c1 (cg_rm_0 ?_)
  unfold w_AbstractStringBuilder_length3
  exact cg_I_of c1 rfl hK
theorem cp_type (S : cp_S h y bu sc a fo fs ch) (j : jb dA h bu bv xs) {c s : Nat} (hc : 1 ≤ c) (hs : 142 ≤ s) {x : Int32} {K : Int32 → hm_T → hz_T → Prop} (h0 : x < 32 ∨ 126 < x ∨ 120 ≤ xs.length → K 0 h z) (hK : ∀ (q : Nat), x = nI q → 32 ≤ q → q ≤ 126 → xs.length < 120 → ∀ (h1 : hm_T) (u : Nat), jb dA h1 bu u (xs ++ [q]) → (u = bv ∨ h u = none) → hm_mo h h1 (fun b => b = bu ∨ b = bv) → K 1 h1 z) : w_Store_type dA y x c s K h z := by
  unfold w_Store_type
  by_cases q1 : x < 32
  · exact if_yes q1 (h0 (Or.inl q1))
  refine if_no q1 ?_
  by_cases q2 : 126 < x
  · exact if_yes q2 (h0 (Or.inr (Or.inl q2)))
  refine if_no q2 ?_
  have jj := j
  obtain ⟨mb, n, f, c1, c2, r1, r2, r⟩ := j
  have hl := tx_n142 r1
  refine cg_R_ref S rfl (cg_d_of (cg_c_of c1 (cg_rm_0 (cp_blen jj ?_))))
  by_cases q3 : 120 ≤ xs.length
  · refine if_no ?_ (h0 (Or.inr (Or.inr q3)))
    intro k
    have := Int32.lt_iff_toInt_lt.mp k
    rw [nI_toInt (by omega), show (120 : Int32).toInt = 120 by decide] at this
    omega
  · refine if_yes ?_ (cg_R_ref S rfl (cg_d_of (cg_c_of c1 (cg_k_of hc hs ?_))))
    · apply Int32.lt_iff_toInt_lt.mpr
      rw [nI_toInt (by omega), show (120 : Int32).toInt = 120 by decide]
      omega
    · have g1 := Int32.le_iff_toInt_le.mp (Int32.not_lt.mp q1)
      have g2 := Int32.le_iff_toInt_le.mp (Int32.not_lt.mp q2)
      rw [show (32 : Int32).toInt = 32 by decide] at g1
      rw [show (126 : Int32).toInt = 126 by decide] at g2
      have hn : ¬ x < 0 := fun k => by
        have := Int32.lt_iff_toInt_lt.mp k
        rw [show (0 : Int32).toInt = 0 by decide] at this
        omega
      obtain ⟨e1, e2, e3⟩ := i32_nat hn
      refine ⟨bv, xs, x.toNatClampNeg, jj, by omega, e1, by omega, fun h1 u k1 k2 k3 => ?_⟩
      exact hK x.toNatClampNeg e1 (by omega) (by omega) (by omega) h1 u k1 k2 (fun b e hb hn => k3 b e hb (fun k => hn (Or.inl k)) (fun k => hn (Or.inr k)))
theorem cp_useBuffer (S : cp_S h y bu sc a fo fs ch) (j : jb dA h bu bv xs) {c s : Nat} (hc : 3 ≤ c) (hs : 288 ≤ s) {K : Option Nat → hm_T → hz_T → Prop} (hK : ∀ (t : Nat) (h1 : hm_T) (z1 : hz_T), (∃ u, z1 t = some (u, xs)) → jb dA h1 bu bv [] → hm_mo h h1 (fun b => b = bu) → hz_mo z z1 → K (some t) h1 z1) : w_Store_useBuffer dA y c s K h z := by
  have jj := j
  obtain ⟨mb, n, f, c1, c2, r⟩ := j
  unfold w_Store_useBuffer
  refine cg_R_ref S rfl (cg_d_of (cg_c_of c1 (cg_k_of (by omega) (by omega) ⟨bv, xs, jj, fun h1 z1 t u k1 k2 k3 => ?_⟩)))
  have S1 : cp_S h1 y bu sc a fo fs ch := k2 _ _ S
  have j1 : jb dA h1 bu bv xs := ⟨mb, n, f, k2 _ _ c1, k2 _ _ c2, r⟩
  refine cg_R_ref S1 rfl (cg_d_of (cg_c_of (k2 _ _ c1) (cg_k_of (by omega) (by omega) ⟨bv, xs, j1, rfl, fun h2 k4 k5 => ?_⟩)))
  exact hK t h2 z1 ⟨u, k1⟩ k4 (fun b e hb hn => k5 b e (k2 b e hb) hn) k3
theorem cp_crash (S : cp_S h y bu sc a fo fs ch) (j : jb dA h bu bv xs) (T : cp_T dA h a aM aO aE mk n m N B E J V) {c s : Nat} (hc : 1 ≤ c) (hs : 142 ≤ s) {K : Int32 → hm_T → hz_T → Prop} (hK : ∀ h1, cp_S h1 y bu sc a fo fs 0 → jb dA h1 bu bv [] → cp_T dA h1 a aM aO aE mk m m N E E J (cp_kp (cp_sp (cp_gb (cp_so V B 0 n) E m) E m) E m) → hm_mo h h1 (fun b => cp_X a aM aO aE mk N b ∨ b = y ∨ b = bu) → K ch h1 z) : w_Store_crash dA y c s K h z := by
  have jj := j
  obtain ⟨mb, n9, f, c1, c2, r⟩ := j
  unfold w_Store_crash
  refine cg_I_of S rfl (cg_R_ref S rfl (cg_d_of (cg_c_of c1 (cg_k_of hc hs ⟨bv, xs, jj, rfl, fun h1 k4 k5 => ?_⟩))))
  have yb : y ≠ bu := hm_ne S c1 rfl
  have nb := cp_nX T c1 rfl rfl rfl
  have nv := cp_nX T c2 rfl rfl rfl
  have ny := cp_nX T S rfl rfl rfl
  have S1 : cp_S h1 y bu sc a fo fs ch := k5 _ _ S yb
  have T1 : cp_T dA h1 a aM aO aE mk n m N B E J V := T.mo (Y := fun b => b = bu) (fun b e hb hn => k5 b e hb hn) (fun b hb q => nb (by rw [← q]; exact hb))
  have yv : bv ≠ y := hm_ne c2 S rfl
  refine cg_R_ref S1 rfl (cg_d_of (cg_c_of T1.1 (cp_giveBack T1 (fun h2 T2 F2 => ?_))))
  have S2 : cp_S h2 y bu sc a fo fs ch := (F2 y ny).trans S1
  refine cg_c_of S2 (cp_beginBatch S2 T2 (fun h3 S3 T3 M3 => ?_))
  have j2 : jb dA h2 bu bv [] := k4.mo F2.mo nb nv
  have j3 : jb dA h3 bu bv [] := j2.mo M3 (fun q => q.elim nb (fun q => yb q.symm)) (fun q => q.elim nv (fun q => yv q))
  refine hK h3 S3 j3 T3 ?_
  refine ((?_ : hm_mo h h1 _).trans (F2.mo.weak (fun b q => Or.inl q))).trans (M3.weak (fun b q => q.elim Or.inl (fun q => Or.inr (Or.inl q))))
  exact fun b e hb hn => k5 b e hb (fun q => hn (Or.inr (Or.inr q)))
end CP7
