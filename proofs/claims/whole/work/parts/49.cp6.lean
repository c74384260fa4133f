-- the class: what stays as it was; the buffer
/-- all cells but those of Y are as they were; there may be new ones -/
def hm_mo (h h1 : hm_T) (Y : Nat → Prop) : Prop := ∀ (b : Nat) (e : va_E), h b = some e → ¬ Y b → h1 b = some e
def hz_mo (z z1 : hz_T) : Prop := ∀ (b : Nat) (e : Nat × List Nat), z b = some e → z1 b = some e
theorem hm_mo.refl {h : hm_T} {Y : Nat → Prop} : hm_mo h h Y := fun _ _ q _ => q
theorem hm_mo.trans {h h1 h2 : hm_T} {Y : Nat → Prop} (m1 : hm_mo h h1 Y) (m2 : hm_mo h1 h2 Y) : hm_mo h h2 Y := fun b e q n => m2 b e (m1 b e q n) n
theorem hm_mo.weak {h h1 : hm_T} {Y Y2 : Nat → Prop} (m : hm_mo h h1 Y) (q : ∀ b, Y b → Y2 b) : hm_mo h h1 Y2 := fun b e hb n => m b e hb (fun k => n (q b k))
theorem hm_mo.u {h : hm_T} {Y : Nat → Prop} {b : Nat} {e : va_E} (hb : Y b) : hm_mo h (hm_u h b e) Y := fun c f hc n => by rw [hm_n (fun q => n (by rw [q]; exact hb))]; exact hc
theorem hz_mo.refl {z : hz_T} : hz_mo z z := fun _ _ q => q
theorem hz_mo.trans {z z1 z2 : hz_T} (m1 : hz_mo z z1) (m2 : hz_mo z1 z2) : hz_mo z z2 := fun b e q => m2 b e (m1 b e q)
theorem cg_rm_of {c s c1 s1 : Nat} {K : Nat → Nat → Nat → Nat → Prop} (hc : c1 ≤ c) (hs : s1 ≤ s) (hK : K c1 s1 (c - c1) (s - s1)) : cg_rm c s K := ⟨c1, s1, c - c1, s - s1, by omega, by omega, hK⟩
theorem cg_rm_0 {c s : Nat} {K : Nat → Nat → Nat → Nat → Prop} (hK : K 0 0 c s) : cg_rm c s K := ⟨0, 0, c, s, rfl, rfl, hK⟩
theorem cg_k_of {c s mc ms : Nat} {K : Nat → Nat → Prop} (hc : mc ≤ c) (hs : ms ≤ s) (hK : K (c - mc) (s - ms)) : cg_k c s mc ms K := ⟨c - mc, s - ms, by omega, by omega, hK⟩
theorem cg_new_of {h : hm_T} {c s ci N : Nat} {fs : List Value} {K : Nat → Nat → Nat → hm_T → Prop} (hc : 1 ≤ c) (hs : N ≤ s) (hK : ∀ q, h q = none → K q (c - 1) (s - N) (hm_u h q (.inr (ci, fs)))) : cg_new h c s ci N fs K := ⟨c - 1, s - N, by omega, by omega, hK⟩
theorem jb.mo {dA : Nat → ClassId} {h h1 : hm_T} {a v : Nat} {xs : List Nat} {Y : Nat → Prop} (j : jb dA h a v xs) (m : hm_mo h h1 Y) (ha : ¬ Y a) (hv : ¬ Y v) : jb dA h1 a v xs := by
  obtain ⟨mb, n, f, c1, c2, r⟩ := j
  exact ⟨mb, n, f, m _ _ c1 ha, m _ _ c2 hv, r⟩
/-- the bytes of a StringBuilder lie in an array -/
theorem jb.ne {dA : Nat → ClassId} {h : hm_T} {a v : Nat} {xs : List Nat} (j : jb dA h a v xs) : a ≠ v := by
  obtain ⟨mb, n, f, c1, c2, r⟩ := j
  exact hm_ne c1 c2 rfl
section CP6
variable {dA : Nat → ClassId} {h h1 : hm_T} {z : hz_T} {y bu bv sc fo a aM aO aE mk n m : Nat} {fs ch : Int32} {N B E : Nat → Nat} {J : Nat → Int32 × Option Nat × Int32 × Nat × Nat × Int32} {V : Nat → Int32 × Nat × Nat}
theorem cp_F.mo (f : cp_F h h1 a aM aO aE mk N) : hm_mo h h1 (cp_X a aM aO aE mk N) := fun b e hb n => (f b n).trans hb
theorem cp_T.mo {Y : Nat → Prop} (T : cp_T dA h a aM aO aE mk n m N B E J V) (M : hm_mo h h1 Y) (hY : ∀ b, cp_X a aM aO aE mk N b → ¬ Y b) : cp_T dA h1 a aM aO aE mk n m N B E J V := by
  obtain ⟨t1, ⟨f1, m1, m2⟩, ⟨f2, o1, o2⟩, ⟨f3, e1, e2⟩, tn, r⟩ := T
  exact ⟨M _ _ t1 (hY _ (Or.inl rfl)), ⟨f1, M _ _ m1 (hY _ (Or.inr (Or.inl rfl))), m2⟩, ⟨f2, M _ _ o1 (hY _ (Or.inr (Or.inr (Or.inl rfl)))), o2⟩, ⟨f3, M _ _ e1 (hY _ (Or.inr (Or.inr (Or.inr (Or.inl rfl))))), e2⟩, fun i hi => M _ _ (tn i hi) (hY _ (Or.inr (Or.inr (Or.inr (Or.inr ⟨i, hi, rfl⟩))))), r⟩
/-- a cell of another kind is none of the tree's -/
theorem cp_nX (T : cp_T dA h a aM aO aE mk n m N B E J V) {b : Nat} {e : va_E} (hb : h b = some e) (h1 : Nat.beq (hm_tag e) 1 = false) (h8 : Nat.beq (hm_tag e) 8 = false) (h104 : Nat.beq (hm_tag e) 104 = false) : ¬ cp_X a aM aO aE mk N b := by
  obtain ⟨t1, ⟨f1, m1, m2⟩, ⟨f2, o1, o2⟩, ⟨f3, e1, e2⟩, tn, r⟩ := T
  rintro (q | q | q | q | ⟨i, hi, q⟩)
  · exact hm_ne hb t1 h1 q
  · exact hm_ne hb m1 h104 q
  · exact hm_ne hb o1 h104 q
  · exact hm_ne hb e1 h104 q
  · exact hm_ne hb (tn i hi) h8 q.symm
theorem cp_beginBatch (S : cp_S h y bu sc a fo fs ch) (T : cp_T dA h a aM aO aE mk n m N B E J V) {K : hm_T → hz_T → Prop} (hK : ∀ h1, cp_S h1 y bu sc a fo fs 0 → cp_T dA h1 a aM aO aE mk n n N B B J (cp_kp V B n) → hm_mo h h1 (fun b => cp_X a aM aO aE mk N b ∨ b = y) → K h1 z) : w_Store_beginBatch dA y K h z := by
  unfold w_Store_beginBatch
  refine cg_R_ref S rfl (cg_d_of (cg_c_of T.1 (cp_keep T (fun h1 T1 F1 => ?_))))
  have hy := cp_nX T S rfl rfl rfl
  have S1 : cp_S h1 y bu sc a fo fs ch := (F1 y hy).trans S
  refine cg_p_of S1 (show _ < 6 by decide) ?_
  exact hK _ hm_s (T1.mo (Y := fun b => b = y) (hm_mo.u rfl) (fun b hb q => hy (by rw [← q]; exact hb))) ((F1.mo.weak (fun b q => Or.inl q)).trans (hm_mo.u (Or.inr rfl)))
theorem cp_commit (S : cp_S h y bu sc a fo fs ch) (T : cp_T dA h a aM aO aE mk n m N B E J V) {K : Int32 → hm_T → hz_T → Prop} (hK : ∀ h1, cp_S h1 y bu sc a fo fs 0 → cp_T dA h1 a aM aO aE mk n n N B B J (cp_kp V B n) → hm_mo h h1 (fun b => cp_X a aM aO aE mk N b ∨ b = y) → K ch h1 z) : w_Store_commit dA y K h z := by
  unfold w_Store_commit
  exact cg_I_of S rfl (cg_c_of S (cp_beginBatch S T hK))
end CP6
