-- the class: texts joined, texts that may stand
/-- is it a text? -/
def cp_tx (J : Nat → Int32 × Option Nat × Int32 × Nat × Nat × Int32) (B : Nat → Nat) : Option Nat → Int32
  | some k => if (J (B k)).1 = 2 then 1 else 0
  | none => 0
theorem cp_tx_1 {J : Nat → Int32 × Option Nat × Int32 × Nat × Nat × Int32} {B : Nat → Nat} {k : Nat} (q : (J (B k)).1 = 2) : cp_tx J B (some k) = 1 := if_pos q
theorem cp_tx_0 {J : Nat → Int32 × Option Nat × Int32 × Nat × Nat × Int32} {B : Nat → Nat} {k : Nat} (q : ¬ (J (B k)).1 = 2) : cp_tx J B (some k) = 0 := if_neg q
section CP8
variable {dA : Nat → ClassId} {h h1 : hm_T} {z : hz_T} {y bu bv sc sv fo a aM aO aE mk n m : Nat} {fs ch : Int32} {N B E : Nat → Nat} {J : Nat → Int32 × Option Nat × Int32 × Nat × Nat × Int32} {V : Nat → Int32 × Nat × Nat} {xs ys ws : List Nat}
theorem cp_isText (T : cp_T dA h a aM aO aE mk n m N B E J V) {o : Option Nat} (ho : ∀ k, o = some k → k < n) {K : Int32 → hm_T → hz_T → Prop} (hK : K (cp_tx J B o) h z) : w_Store_isText dA (o.map B) K h z := by
  unfold w_Store_isText
  cases o with
  | none => exact if_yes rfl hK
  | some k =>
    refine if_no (by simp) (cg_d_of (cg_I_of (cp_nB T (ho k rfl)) rfl ?_))
    by_cases q : (J (B k)).1 = 2
    · rw [cp_tx_1 q] at hK
      exact if_yes q hK
    · rw [cp_tx_0 q] at hK
      exact if_no q hK
theorem cp_joined (S : cp_S h y bu sc a fo fs ch) (j : jb dA h sc sv ws) {t1 t2 u1 u2 : Nat} (z1 : z t1 = some (u1, xs)) (z2 : z t2 = some (u2, ys)) (hl : xs.length + ys.length ≤ 34) (hx : ∀ c ∈ xs, c < 128) (hy : ∀ c ∈ ys, c < 128) {c s : Nat} (hc : 5 ≤ c) (hs : 572 ≤ s) {K : Option Nat → hm_T → hz_T → Prop} (hK : ∀ (t : Nat) (h1 : hm_T) (z1 : hz_T) (sv1 : Nat), (∃ u, z1 t = some (u, xs ++ ys)) → jb dA h1 sc sv1 (xs ++ ys) → (sv1 = sv ∨ h sv1 = none) → hm_mo h h1 (fun b => b = sc ∨ b = sv) → hz_mo z z1 → K (some t) h1 z1) : w_Store_joined dA y (some t1) (some t2) c s K h z := by
  have jj := j
  obtain ⟨mb, n9, f, c1, c2, r⟩ := j
  have yb : y ≠ sc := hm_ne S c1 rfl
  have ys' : y ≠ sv := hm_ne S c2 rfl
  unfold w_Store_joined
  refine cg_R_ref S rfl (cg_d_of (cg_c_of c1 (cg_k_of (by omega) (by omega) ⟨sv, ws, jj, rfl, fun h1 k4 k5 => ?_⟩)))
  have S1 : cp_S h1 y bu sc a fo fs ch := k5 _ _ S yb
  have j1 := k4
  obtain ⟨mb1, n1, f1, d1, d2, r1⟩ := j1
  refine cg_R_ref S1 rfl (cg_d_of (cg_c_of d1 (cg_k_of (by omega) (by omega) ⟨t1, sv, [], u1, xs, rfl, k4, z1, by simp; omega, hx, fun h2 v2 l4 l5 l6 => ?_⟩)))
  have S2 : cp_S h2 y bu sc a fo fs ch := l6 _ _ S1 yb ys'
  have j2 := l4
  obtain ⟨mb2, n2, f2, g1, g2, r2⟩ := j2
  refine cg_R_ref S2 rfl (cg_d_of (cg_c_of g1 (cg_k_of (by omega) (by omega) ⟨t2, v2, [] ++ xs, u2, ys, rfl, l4, z2, by simp; omega, hy, fun h3 v3 m4 m5 m6 => ?_⟩)))
  have yv2 : y ≠ v2 := hm_ne S2 g2 rfl
  have S3 : cp_S h3 y bu sc a fo fs ch := m6 _ _ S2 yb yv2
  have j3 := m4
  obtain ⟨mb3, n3, f3, p1, p2, r3⟩ := j3
  refine cg_R_ref S3 rfl (cg_d_of (cg_c_of p1 (cg_k_of (by omega) (by omega) ⟨v3, _, m4, fun h4 z4 t u q1 q2 q3 => ?_⟩)))
  have e0 : ([] ++ xs ++ ys : List Nat) = xs ++ ys := by simp
  rw [e0] at q1 m4
  refine hK t h4 z4 v3 ⟨u, q1⟩ (m4.mo (Y := fun _ => False) (fun b e hb _ => q2 b e hb) id id) ?_ (fun b e hb hn => ?_) q3
  · have a1 : v2 = sv ∨ h v2 = none := by
      rcases l5 with q | q
      · exact Or.inl q
      · refine Or.inr ?_
        cases hv : h v2 with
        | none => rfl
        | some e =>
          by_cases e1 : v2 = sc
          · exact absurd e1 (Ne.symm l4.ne)
          · have := k5 v2 e hv e1
            rw [q] at this
            cases this
    rcases m5 with q | q
    · rw [q]; exact a1
    · refine (Classical.em (v3 = sv)).elim Or.inl (fun ns => Or.inr ?_)
      cases hv : h v3 with
      | none => rfl
      | some e =>
        have n1 : v3 ≠ sc := Ne.symm m4.ne
        have w1 := l6 v3 e (k5 v3 e hv n1) n1 ns
        rw [q] at w1
        cases w1
  · refine q2 b e (?_)
    have n1 : b ≠ sc := fun q => hn (Or.inl q)
    have n2 : b ≠ sv := fun q => hn (Or.inr q)
    have w1 := l6 b e (k5 b e hb n1) n1 n2
    refine m6 b e w1 n1 (fun q => ?_)
    subst q
    rcases l5 with q | q
    · exact n2 q
    · rw [k5 b e hb n1] at q
      cases q
end CP8
