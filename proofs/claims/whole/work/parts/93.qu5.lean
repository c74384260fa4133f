-- paths in the class: predicates in a row
/-- how far a reading came -/
def qE {α : Type} (r : Nat ⊕ (Nat × α)) : Nat := match r with
  | .inl e => e
  | .inr (q, _) => q
def qB {α : Type} (xs : List Nat) (S : Nat → Nat ⊕ (Nat × α)) : Prop := ∀ p, p ≤ xs.length → p ≤ qE (S p) ∧ qE (S p) ≤ xs.length
theorem qpos {xs : List Nat} {p c : Nat} (h : xs.getD p 0 = c) (hc : c ≠ 0) : p < xs.length := by
  rcases Nat.lt_or_ge p xs.length with w | w
  · exact w
  · rw [List.getD_eq_getElem?_getD, List.getElem?_eq_none w] at h
    exact absurd h.symm hc
theorem qE_inl {α : Type} {e : Nat} : qE (.inl e : Nat ⊕ (Nat × α)) = e := rfl
theorem qE_inr {α : Type} {q : Nat} {x : α} : qE (.inr (q, x) : Nat ⊕ (Nat × α)) = q := rfl
theorem qB_prs {α : Type} {xs : List Nat} {PR : Nat → Nat ⊕ (Nat × α)} {can : Bool} (hB : can = true → qB xs PR) : ∀ (f p : Nat) (acc : List α), p ≤ xs.length → p ≤ qE (q_prs xs PR can f p acc) ∧ qE (q_prs xs PR can f p acc) ≤ xs.length := by
  intro f
  induction f with
  | zero => intro p acc hp; exact ⟨Nat.le_refl _, hp⟩
  | succ f ih =>
    intro p acc hp
    unfold q_prs
    by_cases q1 : xs.getD p 0 = 91
    · have hlt := qpos q1 (by decide)
      rw [if_pos q1]
      cases can with
      | false => rw [if_pos rfl]; exact ⟨Nat.le_refl _, hp⟩
      | true =>
        rw [if_neg (by decide)]
        have b := hB rfl (p + 1) (by omega)
        cases e : PR (p + 1) with
        | inl v => rw [e] at b; simp only [qE] at b ⊢; omega
        | inr v =>
          obtain ⟨q, pr⟩ := v
          rw [e] at b
          simp only [qE_inr] at b ⊢
          by_cases q2 : xs.getD q 0 = 93
          · have := qpos q2 (by decide)
            rw [if_pos q2]
            have i := ih (q + 1) (acc ++ [pr]) (by omega)
            omega
          · rw [if_neg q2, qE_inl]; omega
    · rw [if_neg q1]; exact ⟨Nat.le_refl _, hp⟩
/-- what reads S from the text and makes pictures R of it -/
def rdC {α : Type} (xs : List Nat) (S : Nat → Nat ⊕ (Nat × α)) (bc bs : Nat) (W : Nat → Int32 → Nat → Nat → (Option Nat → hm_T → hz_T → Prop) → hm_T → hz_T → Prop) (dep : Int32) (R : hm_T → hz_T → (Nat → Prop) → List Nat → Nat → α → Prop) (er : hm_T → Nat → Prop) : Prop := ∀ (y tt p : Nat) (h : hm_T) (z : hz_T) (c s : Nat) (K : Option Nat → hm_T → hz_T → Prop), h y = some (r10 tt p (-1)) → rT z tt xs → p ≤ xs.length → 13 * (qE (S p) - p) + bc ≤ c → 859 * (qE (S p) - p) + bs ≤ s →
  (∀ q x, S p = .inr (q, x) → ∀ (h1 : hm_T) (z1 : hz_T) (v : Nat) (L : List Nat), h1 y = some (r10 tt q (-1)) → R h1 z1 (fun b => h b = none) L v x → L.Nodup → hm_mo h h1 (fun b => b = y) → hz_mo z z1 → K (some v) h1 z1) →
  (∀ e, S p = .inl e → ∀ (h1 : hm_T) (z1 : hz_T) (v p1 : Nat), h1 y = some (r10 tt p1 (nI e)) → er h1 v → hm_mo h h1 (fun b => b = y) → hz_mo z z1 → K (some v) h1 z1) → W y dep c s K h z
section QU5
variable {dA : Nat → ClassId} {α : Type} {R : hm_T → hz_T → (Nat → Prop) → List Nat → Nat → α → Prop} {xs : List Nat} {y tt x al : Nat}
theorem lst.alc {h0 h : hm_T} {z : hz_T} {ex : va_E} {acc : List α} (l : lst dA R h0 h z y x al ex acc) : (∃ fs, h al = some (.inr (4, fs))) ∧ h x = some ex ∧ hm_mo h0 h (fun b => b = y) ∧ al ≠ y ∧ x ≠ y := by
  obtain ⟨d, rs, L, m9, ny0, nyh, nx, nal, xa, nd, cx9, xd, ⟨mo, c1, c2⟩, p9, nn⟩ := l
  exact ⟨⟨_, c1⟩, cx9, m9, fun w => ny0 (by rw [← w]; exact nal), fun w => ny0 (by rw [← w]; exact nx)⟩
/-- the loop over predicates ends where an error stands -/
theorem ro_prsX {WP : Nat → Int32 → Nat → Nat → (Option Nat → hm_T → hz_T → Prop) → hm_T → hz_T → Prop} {K : Option Nat → hm_T → hz_T → Prop} {fu p e k c s : Nat} {dep : Int32} {h : hm_T} {z : hz_T} (hf : 1 ≤ fu) (hk : k < 1000) (t : rT z tt xs) (Y : h y = some (r10 tt p (nI e))) (he : e < 2 ^ 31) (hK : K (some x) h z) : w_PathReader_readStep_93 dA WP y K fu dep (some x) (nI k) c s h z := by
  obtain ⟨fu, rfl⟩ : ∃ f, fu = f + 1 := ⟨fu - 1, by omega⟩
  obtain ⟨⟨u, hu⟩, hl, hcx⟩ := t
  unfold w_PathReader_readStep_93 w_PathReader_readStep_185
  refine cg_R_ref Y rfl (cg_d_of ⟨u, xs, hu, ?_⟩)
  by_cases q : xs.length ≤ k
  · exact if_yes (nI_le q (by omega)) hK
  · exact if_no (nI_ge (by omega) (by omega)) (cg_c_of Y (ro_failed1 Y he (if_no (by decide) hK)))
theorem ro_prs (g : gR R) {PR : Nat → Nat ⊕ (Nat × α)} {can : Bool} {d : Nat} (hd : d ≤ 3) (hcan : can = true ↔ d < 3) (hB : can = true → qB xs PR) {WP : Nat → Int32 → Nat → Nat → (Option Nat → hm_T → hz_T → Prop) → hm_T → hz_T → Prop} (hP : can = true → rdC xs PR 12 659 WP (nI (d + 1)) R jo) {h0 : hm_T} {fs : List Value} (hfs : fs[3]? = some (.ref al)) {K : Option Nat → hm_T → hz_T → Prop} : ∀ (f fu p : Nat) (acc : List α) (h : hm_T) (z : hz_T) (c s : Nat), xs.length < p + f → xs.length + 2 ≤ acc.length + fu → acc.length ≤ p → p ≤ xs.length → h y = some (r10 tt p (-1)) → rT z tt xs → lst dA R h0 h z y x al (.inr (12, fs)) acc → 13 * (qE (q_prs xs PR can f p acc) - p) ≤ c → 859 * (qE (q_prs xs PR can f p acc) - p) ≤ s →
    (∀ q l, q_prs xs PR can f p acc = .inr (q, l) → ∀ (h1 : hm_T) (z1 : hz_T), h1 y = some (r10 tt q (-1)) → lst dA R h0 h1 z1 y x al (.inr (12, fs)) l → hz_mo z z1 → K (some x) h1 z1) →
    (∀ e, q_prs xs PR can f p acc = .inl e → ∀ (h1 : hm_T) (z1 : hz_T) (p1 : Nat), h1 y = some (r10 tt p1 (nI e)) → hm_mo h0 h1 (fun b => b = y) → h1 x = some (.inr (12, fs)) → hz_mo z z1 → K (some x) h1 z1) → w_PathReader_readStep_93 dA WP y K fu (nI d) (some x) (nI acc.length) c s h z := by
  intro f
  induction f with
  | zero => intro fu p acc h z c s h1 h2 h3 h4; omega
  | succ f ih =>
    intro fu p acc h z c s hf hfu hk hp Y t l hc hs kok kerr
    obtain ⟨fu, rfl⟩ : ∃ f, fu = f + 1 := ⟨fu - 1, by omega⟩
    have t0 := t
    obtain ⟨⟨u, hu⟩, hl, hcx⟩ := t
    have lc := getD_lt hcx p
    have ep : q_prs xs PR can (f + 1) p acc = (if xs.getD p 0 = 91 then (if can = false then .inl p else match PR (p + 1) with
      | .inl e => .inl e
      | .inr (q, pr) => if xs.getD q 0 = 93 then q_prs xs PR can f (q + 1) (acc ++ [pr]) else .inl q) else .inr (p, acc)) := rfl
    unfold w_PathReader_readStep_93
    refine cg_R_ref Y rfl (cg_d_of ⟨u, xs, hu, ?_⟩)
    by_cases q0 : xs.length ≤ acc.length
    · have hn : ¬ xs.getD p 0 = 91 := fun w => by have := qpos w (by decide); omega
      rw [if_neg hn] at ep
      exact if_yes (nI_le q0 (by omega)) (kok p acc ep h z Y l hz_mo.refl)
    refine if_no (nI_ge (by omega) (by omega)) (cg_c_of Y (ro_failed0 Y (if_yes rfl (cg_I_of Y rfl (cg_c_of Y (ro_seen Y t0 (by omega) ?_))))))
    by_cases q1 : ¬ xs.getD p 0 = 91
    · rw [if_neg q1] at ep
      exact if_no (fun w => q1 ((nI_eq (b := 91) (by omega) (by decide)).mp w)) (kok p acc ep h z Y l hz_mo.refl)
    have q1 := Decidable.not_not.mp q1
    have hlt := qpos q1 (by decide)
    rw [if_pos q1] at ep
    refine if_yes (by rw [q1]; rfl) ?_
    cases ec : can with
    | false =>
      rw [if_pos ec] at ep
      have hd3 : ¬ d < 3 := fun w => by have := hcan.mpr w; rw [ec] at this; cases this
      refine if_no (nI_nlt (b := 3) (by omega) (by omega)) (cg_I_of Y rfl (cg_c_of Y (ro_failAt Y (fun h1 Y1 M1 => ?_))))
      obtain ⟨_, lx, lm, _, nx⟩ := l.alc
      exact kerr p ep h1 z p Y1 (lm.trans M1) (M1 _ _ lx nx) hz_mo.refl
    | true =>
      rw [if_neg (by rw [ec]; decide)] at ep
      have hd3 := hcan.mp ec
      refine if_yes (nI_lt (b := 3) hd3 (by decide)) (cg_I_of Y rfl (cg_p_of Y (show 1 < 3 by decide) ?_))
      rw [nI_1, nI_1]
      generalize hg : (hm_u h y (.inr (10, [Value.ref tt, .int (nI p), .int (-1)].set 1 (.int (nI (p + 1))))) : hm_T) = h1
      have Y1 : h1 y = some (r10 tt (p + 1) (-1)) := by rw [← hg]; exact hm_s
      have M1 : hm_mo h h1 (fun b => b = y) := by rw [← hg]; exact hm_mo.u rfl
      have l1 := l.mo g M1 hz_mo.refl (by rw [Y1]; simp)
      obtain ⟨⟨alf, lal⟩, lx, lm, nal, nx⟩ := l1.alc
      have bq := hB ec (p + 1) (by omega)
      have bE := qB_prs hB (f + 1) p acc hp
      -- how far the predicate reaches
      have rE : qE (PR (p + 1)) ≤ qE (q_prs xs PR can (f + 1) p acc) := by
        rw [ep]
        cases e : PR (p + 1) with
        | inl v => exact Nat.le_refl _
        | inr v =>
          obtain ⟨q, pr⟩ := v
          simp only [qE_inr]
          by_cases q2 : xs.getD q 0 = 93
          · have := qpos q2 (by decide)
            rw [if_pos q2]
            have i := qB_prs hB f (q + 1) (acc ++ [pr]) (by omega)
            omega
          · rw [if_neg q2, qE_inl]; omega
      refine cg_d_of (cg_R_ref lx hfs (cg_c_of Y1 (cg_rm_of (c1 := 13 * (qE (PR (p + 1)) - (p + 1)) + 12) (s1 := 859 * (qE (PR (p + 1)) - (p + 1)) + 659) (by omega) (by omega) (hP ec y tt (p + 1) h1 z _ _ _ Y1 t0 (by omega) (Nat.le_refl _) (Nat.le_refl _) (fun q pr e h2 z2 v L Y2 k2 nn2 M2 Z2 => ?_) (fun e8 e h2 z2 v p2 Y2 jv M2 Z2 => ?_)))))
      · rw [e] at ep rE bq
        rw [qE_inr] at rE bq
        obtain ⟨⟨alf2, lal2⟩, _⟩ := (l1.mo g M2 Z2 (by rw [Y2]; simp)).alc
        refine cg_d_of (cg_c_of lal2 (cg_rm_of (c1 := 1) (s1 := 200) (by rw [e, qE_inr]; omega) (by rw [e, qE_inr]; omega) (lst.add g l1 (by omega) M2 Z2 Y2 k2 nn2 (Nat.le_refl _) (Nat.le_refl _) (fun h3 Y3 l3 => ?_))))
        refine cg_c_of Y3 (ro_failed0 Y3 (if_yes rfl (cg_c_of Y3 (ro_take (c := 93) Y3 (t0.mo Z2) (by omega) (by decide) (fun q2 h4 Y4 M4 => ?_) (fun q2 h4 Y4 M4 => ?_)))))
        · have hq := qpos q2 (by decide)
          have ep2 : q_prs xs PR can (f + 1) p acc = q_prs xs PR can f (q + 1) (acc ++ [pr]) := by rw [ep]; simp only []; rw [if_pos q2]
          have bE2 := qB_prs hB f (q + 1) (acc ++ [pr]) (by omega)
          unfold w_PathReader_readStep_179
          rw [nI_1]
          have hlen : (acc ++ [pr]).length = acc.length + 1 := by rw [List.length_append]; rfl
          rw [← hlen]
          rw [ep2] at hc hs
          refine ih fu (q + 1) (acc ++ [pr]) h4 z2 _ _ (by omega) (by omega) (by omega) (by omega) Y4 (t0.mo Z2) (l3.mo g M4 hz_mo.refl (by rw [Y4]; simp)) (by rw [e, qE_inr]; omega) (by rw [e, qE_inr]; omega) (fun q9 l9 e9 h9 z9 k1 k2 k3 => kok q9 l9 (by rw [ep2]; exact e9) h9 z9 k1 k2 (Z2.trans k3)) (fun e9 w9 h9 z9 p9 k1 k2 k3 k4 => kerr e9 (by rw [ep2]; exact w9) h9 z9 p9 k1 k2 k3 (Z2.trans k4))
        · have ep2 : q_prs xs PR can (f + 1) p acc = .inl q := by rw [ep]; simp only []; rw [if_neg q2]
          unfold w_PathReader_readStep_179
          rw [nI_1]
          obtain ⟨_, lx3, lm3, _, nx3⟩ := l3.alc
          exact ro_prsX (by omega) (by omega) (t0.mo Z2) Y4 (by omega) (kerr q ep2 h4 z2 _ Y4 (lm3.trans M4) (M4 _ _ lx3 nx3) Z2)
      · have ep2 : q_prs xs PR can (f + 1) p acc = .inl e8 := by rw [ep, e]
        rw [e] at rE bq
        rw [qE_inl] at rE bq
        obtain ⟨⟨alf2, lal2⟩, _⟩ := (l1.mo g M2 Z2 (by rw [Y2]; simp)).alc
        refine cg_d_of (cg_c_of lal2 (cg_rm_of (c1 := 1) (s1 := 200) (by rw [e, qE_inl]; omega) (by rw [e, qE_inl]; omega) (lst.addE g l1 (by omega) M2 Z2 Y2 jv (Nat.le_refl _) (Nat.le_refl _) (fun h3 Y3 M3 X3 => ?_))))
        refine cg_c_of Y3 (ro_failed1 Y3 (by omega) (if_no (by decide) ?_))
        unfold w_PathReader_readStep_179
        rw [nI_1]
        exact ro_prsX (by omega) (by omega) (t0.mo Z2) Y3 (by omega) (kerr e8 ep2 h3 z2 _ Y3 M3 X3 Z2)
end QU5
-- paths in the class: a step
theorem q_hd_bd {xs : List Nat} {p : Nat} (hp : p ≤ xs.length) : p ≤ q_hd xs p ∧ q_hd xs p ≤ xs.length := by
  unfold q_hd
  by_cases q : q_axs (xs.getD p 0) = 0
  · rw [if_pos q]; exact ⟨Nat.le_refl _, hp⟩
  · rw [if_neg q]
    have : p < xs.length := by
      rcases Nat.lt_or_ge p xs.length with w | w
      · exact w
      · rw [List.getD_eq_getElem?_getD, List.getElem?_eq_none w] at q
        exact absurd rfl q
    omega
theorem q_sgn_pos {xs : List Nat} {p : Nat} (q : q_sgn (xs.getD p 0) ≠ 0) : p < xs.length := by
  rcases Nat.lt_or_ge p xs.length with w | w
  · exact w
  · rw [List.getD_eq_getElem?_getD, List.getElem?_eq_none w] at q
    exact absurd rfl q
theorem qB_step {α : Type} {xs : List Nat} {PR : Nat → Nat ⊕ (Nat × α)} {can : Bool} (hB : can = true → qB xs PR) : qB xs (q_step xs PR can) := by
  intro p hp
  have h1 := q_hd_bd hp
  have h2 := a_let_le h1.2
  unfold q_step
  by_cases q : a_let xs (q_hd xs p) = 0 ∧ q_sgn (xs.getD (q_hd xs p) 0) = 0
  · rw [if_pos q, qE_inl]; exact h1
  rw [if_neg q]
  have h3 : q_hd xs p ≤ q_hd xs p + (if a_let xs (q_hd xs p) = 0 then 1 else a_let xs (q_hd xs p)) ∧ q_hd xs p + (if a_let xs (q_hd xs p) = 0 then 1 else a_let xs (q_hd xs p)) ≤ xs.length := by
    by_cases w : a_let xs (q_hd xs p) = 0
    · rw [if_pos w]
      have := q_sgn_pos (fun w2 => q ⟨w, w2⟩)
      omega
    · rw [if_neg w]; omega
  have b := qB_prs hB 130 (q_hd xs p + (if a_let xs (q_hd xs p) = 0 then 1 else a_let xs (q_hd xs p))) [] h3.2
  cases e : q_prs xs PR can 130 (q_hd xs p + (if a_let xs (q_hd xs p) = 0 then 1 else a_let xs (q_hd xs p))) [] with
  | inl v => rw [e] at b; simp only [qE] at b ⊢; omega
  | inr v => obtain ⟨v1, v2⟩ := v; rw [e] at b; simp only [qE] at b ⊢; omega
section QU6
variable {dA : Nat → ClassId} {α : Type} {R : hm_T → hz_T → (Nat → Prop) → List Nat → Nat → α → Prop} {xs : List Nat}
theorem ro_stepInit {h : hm_T} {z : hz_T} {x : Nat} (c0 : h x = some (.inr (12, [.int 0, .int 0, .null, .null, .long 0]))) {c s : Nat} (hc : 1 ≤ c) (hs : 3 ≤ s) {K : hm_T → hz_T → Prop} (hK : ∀ (h1 : hm_T) (nm al u : Nat), h1 x = some (.inr (12, [.int 67, .int 110, .ref nm, .ref al, .long 0])) → z nm = some (u, []) → ja dA h1 al (dA 99) [] → h al = none → hm_mo h h1 (fun b => b = x) → K h1 z) : w_Step_init dA x c s K h z := by
  unfold w_Step_init
  refine cg_p_of c0 (show 0 < 5 by decide) (cg_p_of hm_s (show 1 < 5 by decide) (fun nm u hu => cg_p_of hm_s (show 2 < 5 by decide) ?_))
  rw [hm_uu, hm_uu]
  refine cg_new_of hc hs (fun al hal => ?_)
  have n1 : al ≠ x := fun w => by rw [w, hm_s] at hal; cases hal
  have hq0 : h al = none := by rw [hm_n n1] at hal; exact hal
  refine cg_c_of hm_s (cg_rm_0 (ja_init hm_s (fun h1 j1 M1 => ?_)))
  have hx1 := M1 _ _ (show (hm_u (hm_u h x _) al _ : hm_T) x = some _ by rw [hm_n (Ne.symm n1)]; exact hm_s) (Ne.symm n1)
  refine cg_p_of hx1 (show 3 < 5 by decide) (cg_p_of hm_s (show 4 < 5 by decide) ?_)
  rw [hm_uu]
  refine hK _ nm al u hm_s hu (j1.mo (Y := fun b => b = x) (hm_mo.u rfl) n1 (fun w => absurd rfl w)) hq0 (fun b e hb n => ?_)
  rw [hm_n n]
  refine M1 b e ?_ (hm_nn hb hq0)
  rw [hm_n (hm_nn hb hq0), hm_n n]
  exact hb
/-- pictures of steps that no one has prepared -/
abbrev sP0 (dA : Nat → ClassId) (R : hm_T → hz_T → (Nat → Prop) → List Nat → Nat → α → Prop) : hm_T → hz_T → (Nat → Prop) → List Nat → Nat → sT α → Prop := fun h z F => sP dA h z F (fun _ _ => 0) (R h z F)
theorem ro_step (g : gR R) {PR : Nat → Nat ⊕ (Nat × α)} {can : Bool} {d : Nat} (hd : d ≤ 3) (hcan : can = true ↔ d < 3) (hB : can = true → qB xs PR) {WP : Nat → Int32 → Nat → Nat → (Option Nat → hm_T → hz_T → Prop) → hm_T → hz_T → Prop} (hP : can = true → rdC xs PR 12 659 WP (nI (d + 1)) R jo) : rdC xs (q_step xs PR can) 4 154 (w_PathReader_readStep dA WP) (nI d) (sP0 dA R) jo := by
  intro y tt p h z c s K Y t hp hc hs kok kerr
  have hl := t.2.1
  have lc := getD_lt t.2.2 p
  have hh := q_hd_bd hp
  have lc2 := getD_lt t.2.2 (q_hd xs p)
  have hle := a_let_le hh.2
  have bE := qB_step hB p hp
  obtain ⟨a1, a2, a3⟩ := a_let_small (xs := xs) (p := q_hd xs p)
  unfold w_PathReader_readStep
  refine cg_new_of (by omega) (by omega) (fun x hx => cg_c_of hm_s (cg_rm_of (c1 := 1) (s1 := 3) (by omega) (by omega) (ro_stepInit hm_s (Nat.le_refl _) (Nat.le_refl _) (fun h1 nm al u X1 hnm j1 na M1 => ?_))))
  have xa : al ≠ x := fun w => by rw [w, hm_s] at na; cases na
  have hal : h al = none := by rw [hm_n xa] at na; exact na
  have m1 : hm_mo h h1 (fun _ => False) := fun b e hb _ => M1 b e (by rw [hm_n (hm_nn hb hx)]; exact hb) (hm_nn hb hx)
  have Y1 := m1 _ _ Y id
  have xy : x ≠ y := Ne.symm (hm_nn Y hx)
  have ay : al ≠ y := Ne.symm (hm_nn Y hal)
  have ny0 : h y ≠ none := by rw [Y]; simp
  have fr : ∀ b e, h b = some e → b ≠ x := fun b e hb => hm_nn hb hx
  -- from the sign or the name on
  have go2 : ∀ (h3 : hm_T) (z3 : hz_T) (p2 so nm3 u3 c3 s3 : Nat), h3 y = some (r10 tt p2 (-1)) → hz_mo z z3 → p2 = q_hd xs p + (if a_let xs (q_hd xs p) = 0 then 1 else a_let xs (q_hd xs p)) → p2 ≤ xs.length → so = (if a_let xs (q_hd xs p) = 0 then q_sgn (xs.getD (q_hd xs p) 0) else 0) → ¬ (a_let xs (q_hd xs p) = 0 ∧ q_sgn (xs.getD (q_hd xs p) 0) = 0) → h3 x = some (.inr (12, [.int (nI (q_axc (q_axs (xs.getD p 0)))), .int (nI (q_sgc so)), .ref nm3, .ref al, .long 0])) → z3 nm3 = some (u3, (xs.drop (q_hd xs p)).take (a_let xs (q_hd xs p))) → ja dA h3 al (dA 99) [] → hm_mo h h3 (fun b => b = y) → 13 * (qE (q_step xs PR can p) - p) ≤ c3 → 859 * (qE (q_step xs PR can p) - p) ≤ s3 → w_PathReader_readStep_91 dA WP y K (nI d) (some x) c3 s3 h3 z3 := by
    intro h3 z3 p2 so nm3 u3 c3 s3 Y3 Z3 e2 hp2 es hn X3 hnm3 j3 M3 hc3 hs3
    have ep : q_step xs PR can p = (match q_prs xs PR can 130 p2 [] with
      | .inl e => .inl e
      | .inr (q, l) => .inr (q, (q_axs (xs.getD p 0), so, (xs.drop (q_hd xs p)).take (a_let xs (q_hd xs p)), l))) := by
      rw [e2, es]
      exact if_neg hn
    have eE : qE (q_step xs PR can p) = qE (q_prs xs PR can 130 p2 []) := by
      rw [ep]
      cases q_prs xs PR can 130 p2 [] with
      | inl v => rfl
      | inr v => rfl
    have p2g : p ≤ p2 := by omega
    rw [eE] at hc3 hs3
    unfold w_PathReader_readStep_91
    refine ro_prs (h0 := h) g hd hcan hB hP (al := al) rfl 130 mF p2 [] h3 z3 c3 s3 (by omega) (by unfold mF; simp; omega) (by simp) hp2 Y3 (t.mo Z3) (lst.nil M3 ny0 (by rw [Y3]; simp) hx hal (Ne.symm xa) X3 j3) (by omega) (by omega) ?_ ?_
    · intro q l e h4 z4 Y4 l4 Z4
      obtain ⟨rs, L, k1, k2, k3, k4, k5, k6⟩ := l4.done g
      refine kok q _ (by rw [ep, e]) h4 z4 x (x :: L) Y4 ⟨nm3, al, u3, rs, L, rfl, hx, k6, Z4 _ _ hnm3, k1, k2⟩ k3 k5 (Z3.trans Z4)
    · intro e w h4 z4 p4 Y4 M4 X4 Z4
      exact kerr e (by rw [ep, w]) h4 z4 x p4 Y4 ⟨12, _, X4, Or.inr (Or.inr (Or.inl rfl))⟩ M4 (Z3.trans Z4)
  -- from behind the axis on
  have go : ∀ (h2 : hm_T), h2 y = some (r10 tt (q_hd xs p) (-1)) → h2 x = some (.inr (12, [.int (nI (q_axc (q_axs (xs.getD p 0)))), .int 110, .ref nm, .ref al, .long 0])) → ja dA h2 al (dA 99) [] → hm_mo h h2 (fun b => b = y) → w_PathReader_readStep_44 dA WP y K (nI d) (some x) (c - 1 - 1) (s - 5 - 3) h2 z := by
    intro h2 Y2 X2 j2 M2
    unfold w_PathReader_readStep_44
    refine cg_I_of Y2 rfl (cg_c_of Y2 (ro_seen Y2 t (by omega) (ro_kind lc2 (fun q => if_yes rfl ?_) (fun q => if_no (by decide) ?_))))
    · refine cg_c_of Y2 (cg_rm_of (c1 := 2) (s1 := 146) (by omega) (by omega) (ro_name Y2 t hh.2 (Nat.le_refl _) (Nat.le_refl _) (fun h3 z3 t3 Y3 M3 Z3 k => ?_)))
      obtain ⟨u3, k3⟩ := k
      have X3 := M3 _ _ X2 xy
      refine cg_d_of (cg_p_of X3 (show 2 < 5 by decide) ?_)
      have Y4 : ∀ e, (hm_u h3 x e : hm_T) y = some (r10 tt (q_hd xs p + a_let xs (q_hd xs p)) (if a_let xs (q_hd xs p) = 0 then nI (q_hd xs p) else -1)) := fun e => by rw [hm_n (Ne.symm xy)]; exact Y3
      have M4 : ∀ e, hm_mo h (hm_u h3 x e) (fun b => b = y) := fun e b v hb n => by rw [hm_n (fr b v hb)]; exact M3 _ _ (M2 _ _ hb n) n
      have j4 : ∀ e, ja dA (hm_u h3 x e) al (dA 99) [] := fun e => (j2.mo M3 ay (fun w => absurd rfl w)).mo (Y := fun b => b = x) (hm_mo.u rfl) xa (fun w => absurd rfl w)
      by_cases q2 : a_let xs (q_hd xs p) = 0
      · have ep : q_step xs PR can p = .inl (q_hd xs p) := if_pos ⟨q2, q⟩
        have Y5 := Y4 (.inr (12, [Value.int (nI (q_axc (q_axs (xs.getD p 0)))), .int 110, .ref nm, .ref al, .long 0].set 2 (va_rf (some t3))))
        rw [if_pos q2] at Y5
        unfold w_PathReader_readStep_91
        exact ro_prsX (k := 0) (by unfold mF; omega) (by decide) (t.mo Z3) Y5 (by omega) (kerr _ ep _ z3 x _ Y5 ⟨12, _, hm_s, Or.inr (Or.inr (Or.inl rfl))⟩ (M4 _) Z3)
      · have Y5 := Y4 (.inr (12, [Value.int (nI (q_axc (q_axs (xs.getD p 0)))), .int 110, .ref nm, .ref al, .long 0].set 2 (va_rf (some t3))))
        rw [if_neg q2] at Y5
        exact go2 _ z3 _ 0 t3 u3 _ _ Y5 Z3 (by rw [if_neg q2]) (by omega) (by rw [if_neg q2]) (fun w => q2 w.1) hm_s k3 (j4 _) (M4 _) (by omega) (by omega)
    · have hlt := q_sgn_pos q
      have q2 : a_let xs (q_hd xs p) = 0 := by
        rcases Nat.eq_zero_or_pos (a_let xs (q_hd xs p)) with w | w
        · exact w
        · exact absurd (q_sgn_small ⟨_, lc2⟩ (a2 0 w)) q
      refine cg_I_of Y2 rfl (cg_c_of Y2 (ro_seen Y2 t (by omega) (cg_d_of (cg_ch_of lc2 (cg_p_of X2 (show 1 < 5 by decide) ?_)))))
      have Y3 : ∀ e, (hm_u h2 x e : hm_T) y = some (r10 tt (q_hd xs p) (-1)) := fun e => by rw [hm_n (Ne.symm xy)]; exact Y2
      refine cg_I_of (Y3 _) rfl (cg_p_of (Y3 _) (show 1 < 3 by decide) ?_)
      rw [nI_1]
      refine go2 _ z (q_hd xs p + 1) (q_sgn (xs.getD (q_hd xs p) 0)) nm u _ _ hm_s hz_mo.refl (by rw [if_pos q2]) (by omega) (by rw [if_pos q2]) (fun w => q w.2) ?_ (by rw [q2, List.take_zero]; exact hnm) ?_ (fun b v hb n => ?_) (by omega) (by omega)
      · rw [hm_n xy, q_sgc_s ⟨_, lc2⟩ q]
        exact hm_s
      · exact (j2.mo (Y := fun b => b = x) (hm_mo.u rfl) xa (fun w => absurd rfl w)).mo (Y := fun b => b = y) (hm_mo.u rfl) ay (fun w => absurd rfl w)
      · rw [hm_n n, hm_n (fr b v hb)]; exact M2 _ _ hb n
  refine cg_I_of Y1 rfl (cg_c_of Y1 (ro_seen Y1 t (by omega) (ro_axis lc (fun q => if_yes rfl ?_) (fun q => if_no (by decide) ?_))))
  · have e1 : q_hd xs p = p := if_pos q
    exact go h1 (by rw [e1]; exact Y1) (by rw [q]; exact X1) j1 (m1.weak (fun _ w => w.elim))
  · have e1 : q_hd xs p = p + 1 := if_neg q
    refine cg_I_of Y1 rfl (cg_c_of Y1 (ro_seen Y1 t (by omega) (cg_ch_of lc (cg_p_of X1 (show 0 < 5 by decide) ?_))))
    have Y3 : ∀ e, (hm_u h1 x e : hm_T) y = some (r10 tt p (-1)) := fun e => by rw [hm_n (Ne.symm xy)]; exact Y1
    refine cg_I_of (Y3 _) rfl (cg_p_of (Y3 _) (show 1 < 3 by decide) ?_)
    rw [nI_1]
    refine go _ (by rw [e1]; exact hm_s) ?_ ?_ (fun b v hb n => ?_)
    · rw [hm_n xy, q_axc_s ⟨_, lc⟩ q]
      exact hm_s
    · exact (j1.mo (Y := fun b => b = x) (hm_mo.u rfl) xa (fun w => absurd rfl w)).mo (Y := fun b => b = y) (hm_mo.u rfl) ay (fun w => absurd rfl w)
    · rw [hm_n n, hm_n (fr b v hb)]; exact m1 _ _ hb id
end QU6
-- paths in the class: a path
theorem qB_sts {α : Type} {xs : List Nat} {PR : Nat → Nat ⊕ (Nat × α)} {can : Bool} (hB : can = true → qB xs PR) : ∀ (f p : Nat) (acc : List (sT α)), p ≤ xs.length → p ≤ qE (q_sts xs PR can f p acc) ∧ qE (q_sts xs PR can f p acc) ≤ xs.length := by
  intro f
  induction f with
  | zero => intro p acc hp; exact ⟨Nat.le_refl _, hp⟩
  | succ f ih =>
    intro p acc hp
    have b := qB_step hB p hp
    unfold q_sts
    cases e : q_step xs PR can p with
    | inl v => rw [e] at b; exact b
    | inr v =>
      obtain ⟨q, s⟩ := v
      rw [e, qE_inr] at b
      simp only []
      by_cases q1 : xs.getD q 0 = 47
      · have := qpos q1 (by decide)
        rw [if_pos q1]
        have i := ih (q + 1) (acc ++ [s]) (by omega)
        omega
      · rw [if_neg q1, qE_inr]; exact b
theorem qB_pth {α : Type} {xs : List Nat} {PR : Nat → Nat ⊕ (Nat × α)} {can : Bool} (hB : can = true → qB xs PR) : qB xs (q_pth xs PR can) := by
  intro p hp
  unfold q_pth
  have h3 : p ≤ (if xs.getD p 0 = 47 then p + 1 else p) ∧ (if xs.getD p 0 = 47 then p + 1 else p) ≤ xs.length := by
    by_cases q : xs.getD p 0 = 47
    · have := qpos q (by decide)
      rw [if_pos q]; omega
    · rw [if_neg q]; omega
  have b := qB_sts hB 130 (if xs.getD p 0 = 47 then p + 1 else p) [] h3.2
  cases e : q_sts xs PR can 130 (if xs.getD p 0 = 47 then p + 1 else p) [] with
  | inl v => rw [e] at b; simp only [qE] at b ⊢; omega
  | inr v => obtain ⟨v1, v2⟩ := v; rw [e] at b; simp only [qE] at b ⊢; omega
/-- what may follow a step -/
def q_tl {α : Type} (xs : List Nat) (PR : Nat → Nat ⊕ (Nat × α)) (can : Bool) (f q : Nat) (acc : List (sT α)) : Nat ⊕ (Nat × List (sT α)) := if xs.getD q 0 = 47 then q_sts xs PR can f (q + 1) acc else .inr (q, acc)
theorem q_sts_s {α : Type} {xs : List Nat} {PR : Nat → Nat ⊕ (Nat × α)} {can : Bool} {f p : Nat} {acc : List (sT α)} : q_sts xs PR can (f + 1) p acc = (match q_step xs PR can p with
    | .inl e => .inl e
    | .inr (q, s) => q_tl xs PR can f q (acc ++ [s])) := rfl
theorem qB_tl {α : Type} {xs : List Nat} {PR : Nat → Nat ⊕ (Nat × α)} {can : Bool} (hB : can = true → qB xs PR) {f q : Nat} {acc : List (sT α)} (hq : q ≤ xs.length) : q ≤ qE (q_tl xs PR can f q acc) ∧ qE (q_tl xs PR can f q acc) ≤ xs.length := by
  unfold q_tl
  by_cases q1 : xs.getD q 0 = 47
  · have := qpos q1 (by decide)
    rw [if_pos q1]
    have := qB_sts hB f (q + 1) acc (by omega)
    omega
  · rw [if_neg q1, qE_inr]; omega
section QU7
variable {dA : Nat → ClassId} {α : Type} {R : hm_T → hz_T → (Nat → Prop) → List Nat → Nat → α → Prop} {xs : List Nat} {y tt x al : Nat}
theorem ro_stsX {WS : Nat → Int32 → Nat → Nat → (Option Nat → hm_T → hz_T → Prop) → hm_T → hz_T → Prop} {K : Option Nat → hm_T → hz_T → Prop} {fu p e k c s : Nat} {dep : Int32} {h : hm_T} {z : hz_T} (hf : 1 ≤ fu) (hk : k < 1000) (t : rT z tt xs) (Y : h y = some (r10 tt p (nI e))) (he : e < 2 ^ 31) (hK : K (some x) h z) : w_PathReader_readPath_58 dA WS y K fu dep (some x) (nI k) c s h z := by
  obtain ⟨fu, rfl⟩ : ∃ f, fu = f + 1 := ⟨fu - 1, by omega⟩
  obtain ⟨⟨u, hu⟩, hl, hcx⟩ := t
  unfold w_PathReader_readPath_58 w_PathReader_readPath_118
  refine cg_R_ref Y rfl (cg_d_of ⟨u, xs, hu, ?_⟩)
  by_cases q : xs.length ≤ k
  · exact if_yes (nI_le q (by omega)) hK
  · exact if_no (nI_ge (by omega) (by omega)) (cg_c_of Y (ro_failed1 Y he (if_no (by decide) hK)))
theorem ro_sts (g : gR R) {PR : Nat → Nat ⊕ (Nat × α)} {can : Bool} {d : Nat} (hB : can = true → qB xs PR) {WS : Nat → Int32 → Nat → Nat → (Option Nat → hm_T → hz_T → Prop) → hm_T → hz_T → Prop} (hS : rdC xs (q_step xs PR can) 4 154 WS (nI d) (sP0 dA R) jo) {h0 : hm_T} {fs : List Value} (hfs : fs[1]? = some (.ref al)) {K : Option Nat → hm_T → hz_T → Prop} : ∀ (f fu q k : Nat) (acc : List (sT α)) (h : hm_T) (z : hz_T) (c s : Nat), xs.length < q + f → xs.length + 2 ≤ k + fu → k ≤ q → acc.length = k + 1 → q ≤ xs.length → h y = some (r10 tt q (-1)) → rT z tt xs → lst dA (sP0 dA R) h0 h z y x al (.inr (11, fs)) acc → 13 * (qE (q_tl xs PR can f q acc) - q) ≤ c → 859 * (qE (q_tl xs PR can f q acc) - q) ≤ s →
    (∀ q2 l, q_tl xs PR can f q acc = .inr (q2, l) → ∀ (h1 : hm_T) (z1 : hz_T), h1 y = some (r10 tt q2 (-1)) → lst dA (sP0 dA R) h0 h1 z1 y x al (.inr (11, fs)) l → hz_mo z z1 → K (some x) h1 z1) →
    (∀ e, q_tl xs PR can f q acc = .inl e → ∀ (h1 : hm_T) (z1 : hz_T) (p1 : Nat), h1 y = some (r10 tt p1 (nI e)) → hm_mo h0 h1 (fun b => b = y) → hz_mo z z1 → K (some x) h1 z1) → w_PathReader_readPath_58 dA WS y K fu (nI d) (some x) (nI k) c s h z := by
  have gS : gR (sP0 dA R) := gR_S g
  intro f
  induction f with
  | zero => intro fu q k acc h z c s h1 h2 h3 h4 h5; omega
  | succ f ih =>
    intro fu q k acc h z c s hf hfu hk hk2 hp Y t l hc hs kok kerr
    obtain ⟨fu, rfl⟩ : ∃ f, fu = f + 1 := ⟨fu - 1, by omega⟩
    have t0 := t
    obtain ⟨⟨u, hu⟩, hl, hcx⟩ := t
    have lc := getD_lt hcx q
    have ep : q_tl xs PR can (f + 1) q acc = (if xs.getD q 0 = 47 then q_sts xs PR can (f + 1) (q + 1) acc else .inr (q, acc)) := rfl
    unfold w_PathReader_readPath_58
    refine cg_R_ref Y rfl (cg_d_of ⟨u, xs, hu, ?_⟩)
    by_cases q0 : xs.length ≤ k
    · have hn : ¬ xs.getD q 0 = 47 := fun w => by have := qpos w (by decide); omega
      rw [if_neg hn] at ep
      exact if_yes (nI_le q0 (by omega)) (kok q acc ep h z Y l hz_mo.refl)
    refine if_no (nI_ge (by omega) (by omega)) (cg_c_of Y (ro_failed0 Y (if_yes rfl (cg_I_of Y rfl (cg_c_of Y (ro_seen Y t0 (by omega) ?_))))))
    by_cases q1 : ¬ xs.getD q 0 = 47
    · rw [if_neg q1] at ep
      exact if_no (fun w => q1 ((nI_eq (b := 47) (by omega) (by decide)).mp w)) (kok q acc ep h z Y l hz_mo.refl)
    have q1 := Decidable.not_not.mp q1
    have hlt := qpos q1 (by decide)
    rw [if_pos q1, q_sts_s] at ep
    refine if_yes (by rw [q1]; rfl) (cg_I_of Y rfl (cg_p_of Y (show 1 < 3 by decide) ?_))
    rw [nI_1]
    generalize hg : (hm_u h y (.inr (10, [Value.ref tt, .int (nI q), .int (-1)].set 1 (.int (nI (q + 1))))) : hm_T) = h1
    have Y1 : h1 y = some (r10 tt (q + 1) (-1)) := by rw [← hg]; exact hm_s
    have M1 : hm_mo h h1 (fun b => b = y) := by rw [← hg]; exact hm_mo.u rfl
    have l1 := l.mo gS M1 hz_mo.refl (by rw [Y1]; simp)
    obtain ⟨⟨alf, lal⟩, lx, lm, nal, nx⟩ := l1.alc
    have bq := qB_step hB (q + 1) (by omega)
    have bE := qB_tl hB (f := f + 1) (acc := acc) hp
    have rE : qE (q_step xs PR can (q + 1)) ≤ qE (q_tl xs PR can (f + 1) q acc) := by
      rw [ep]
      cases e : q_step xs PR can (q + 1) with
      | inl v => exact Nat.le_refl _
      | inr v =>
        obtain ⟨q3, s3⟩ := v
        rw [e, qE_inr] at bq
        simp only [qE_inr]
        exact (qB_tl hB bq.2).1
    refine cg_d_of (cg_R_ref lx hfs (cg_c_of Y1 (cg_rm_of (c1 := 13 * (qE (q_step xs PR can (q + 1)) - (q + 1)) + 4) (s1 := 859 * (qE (q_step xs PR can (q + 1)) - (q + 1)) + 154) (by omega) (by omega) (hS y tt (q + 1) h1 z _ _ _ Y1 t0 (by omega) (Nat.le_refl _) (Nat.le_refl _) (fun q3 st e h2 z2 v L Y2 k2 nn2 M2 Z2 => ?_) (fun e8 e h2 z2 v p2 Y2 jv M2 Z2 => ?_)))))
    · rw [e] at ep rE bq
      rw [qE_inr] at rE bq
      have ep2 : q_tl xs PR can (f + 1) q acc = q_tl xs PR can f q3 (acc ++ [st]) := ep
      obtain ⟨⟨alf2, lal2⟩, _⟩ := (l1.mo gS M2 Z2 (by rw [Y2]; simp)).alc
      refine cg_d_of (cg_c_of lal2 (cg_rm_of (c1 := 1) (s1 := 200) (by rw [e, qE_inr]; omega) (by rw [e, qE_inr]; omega) (lst.add gS l1 (by omega) M2 Z2 Y2 k2 nn2 (Nat.le_refl _) (Nat.le_refl _) (fun h3 Y3 l3 => ?_))))
      have bE2 := qB_tl hB (f := f) (acc := acc ++ [st]) bq.2
      rw [nI_1]
      rw [ep2] at hc hs
      exact ih fu q3 (k + 1) (acc ++ [st]) h3 z2 _ _ (by omega) (by omega) (by omega) (by rw [List.length_append]; simp; omega) bq.2 Y3 (t0.mo Z2) l3 (by rw [e, qE_inr]; omega) (by rw [e, qE_inr]; omega) (fun q9 l9 e9 h9 z9 k1 k2 k3 => kok q9 l9 (by rw [ep2]; exact e9) h9 z9 k1 k2 (Z2.trans k3)) (fun e9 w9 h9 z9 p9 k1 k2 k4 => kerr e9 (by rw [ep2]; exact w9) h9 z9 p9 k1 k2 (Z2.trans k4))
    · have ep2 : q_tl xs PR can (f + 1) q acc = .inl e8 := by rw [ep, e]
      rw [e] at rE bq
      rw [qE_inl] at rE bq
      obtain ⟨⟨alf2, lal2⟩, _⟩ := (l1.mo gS M2 Z2 (by rw [Y2]; simp)).alc
      refine cg_d_of (cg_c_of lal2 (cg_rm_of (c1 := 1) (s1 := 200) (by rw [e, qE_inl]; omega) (by rw [e, qE_inl]; omega) (lst.addE gS l1 (by omega) M2 Z2 Y2 jv (Nat.le_refl _) (Nat.le_refl _) (fun h3 Y3 M3 X3 => ?_))))
      rw [nI_1]
      exact ro_stsX (by omega) (by omega) (t0.mo Z2) Y3 (by omega) (kerr e8 ep2 h3 z2 _ Y3 M3 Z2)
/-- pictures of paths that no one has prepared -/
abbrev tP0 (dA : Nat → ClassId) (R : hm_T → hz_T → (Nat → Prop) → List Nat → Nat → α → Prop) : hm_T → hz_T → (Nat → Prop) → List Nat → Nat → Bool × List (sT α) → Prop := fun h z F => tP dA h z F (fun _ _ => 0) (R h z F)
theorem ro_pth (g : gR R) {PR : Nat → Nat ⊕ (Nat × α)} {can : Bool} {d : Nat} (hB : can = true → qB xs PR) {WS : Nat → Int32 → Nat → Nat → (Option Nat → hm_T → hz_T → Prop) → hm_T → hz_T → Prop} (hS : rdC xs (q_step xs PR can) 4 154 WS (nI d) (sP0 dA R) jo) : rdC xs (q_pth xs PR can) 7 359 (w_PathReader_readPath dA WS) (nI d) (tP0 dA R) (fun _ _ => True) := by
  have gS : gR (sP0 dA R) := gR_S g
  intro y tt p h z c s K Y t hp hc hs kok kerr
  have hl := t.2.1
  have lc := getD_lt t.2.2 p
  have bE := qB_pth hB p hp
  have ny0 : h y ≠ none := by rw [Y]; simp
  unfold w_PathReader_readPath
  refine cg_new_of (by omega) (by omega) (fun x hx => ?_)
  have Y0 : ∀ e, (hm_u h x e : hm_T) y = some (r10 tt p (-1)) := fun e => by rw [hm_n (hm_nn Y hx)]; exact Y
  have xy : x ≠ y := Ne.symm (hm_nn Y hx)
  -- with the first step
  have go2 : ∀ (h3 : hm_T) (p2 al c3 s3 : Nat) (fd : Bool), h3 y = some (r10 tt p2 (-1)) → p2 = (if xs.getD p 0 = 47 then p + 1 else p) → fd = decide (xs.getD p 0 = 47) → h al = none → x ≠ al → h3 x = some (.inr (11, [.int (bI fd), .ref al])) → ja dA h3 al (dA 99) [] → hm_mo h h3 (fun b => b = y) → 13 * (qE (q_pth xs PR can p) - p) + 5 ≤ c3 → 859 * (qE (q_pth xs PR can p) - p) + 354 ≤ s3 → w_PathReader_readPath_43 dA WS y K (nI d) (some x) c3 s3 h3 z := by
    intro h3 p2 al c3 s3 fd Y3 ep2 efd hal xa X3 j3 M3 hc3 hs3
    have hp2 : p ≤ p2 ∧ p2 ≤ xs.length := by
      rw [ep2]
      by_cases q : xs.getD p 0 = 47
      · have := qpos q (by decide)
        rw [if_pos q]; omega
      · rw [if_neg q]; omega
    have ep : q_pth xs PR can p = (match q_sts xs PR can 130 p2 [] with
      | .inl e => .inl e
      | .inr (q, l) => .inr (q, (fd, l))) := by rw [ep2, efd]; rfl
    have eE : qE (q_pth xs PR can p) = qE (q_sts xs PR can 130 p2 []) := by
      rw [ep]
      cases q_sts xs PR can 130 p2 [] with
      | inl v => rfl
      | inr v => rfl
    rw [eE] at hc3 hs3
    have l3 : lst dA (sP0 dA R) h h3 z y x al (.inr (11, [.int (bI fd), .ref al])) [] := lst.nil M3 ny0 (by rw [Y3]; simp) hx hal xa X3 j3
    have bq := qB_step hB p2 hp2.2
    have es := q_sts_s (xs := xs) (PR := PR) (can := can) (f := 129) (p := p2) (acc := [])
    have rE : qE (q_step xs PR can p2) ≤ qE (q_sts xs PR can 130 p2 []) := by
      rw [es]
      cases e : q_step xs PR can p2 with
      | inl v => exact Nat.le_refl _
      | inr v =>
        obtain ⟨q3, s3⟩ := v
        rw [e, qE_inr] at bq
        simp only [qE_inr]
        exact (qB_tl hB bq.2).1
    unfold w_PathReader_readPath_43
    refine cg_d_of (cg_R_ref X3 rfl (cg_c_of Y3 (cg_rm_of (c1 := 13 * (qE (q_step xs PR can p2) - p2) + 4) (s1 := 859 * (qE (q_step xs PR can p2) - p2) + 154) (by omega) (by omega) (hS y tt p2 h3 z _ _ _ Y3 t hp2.2 (Nat.le_refl _) (Nat.le_refl _) (fun q3 st e h4 z4 v L Y4 k4 nn4 M4 Z4 => ?_) (fun e8 e h4 z4 v p4 Y4 jv M4 Z4 => ?_)))))
    · rw [e] at es rE bq
      rw [qE_inr] at rE bq
      have es2 : q_sts xs PR can 130 p2 [] = q_tl xs PR can 129 q3 [st] := es
      obtain ⟨⟨alf2, lal2⟩, _⟩ := (l3.mo gS M4 Z4 (by rw [Y4]; simp)).alc
      refine cg_d_of (cg_c_of lal2 (cg_rm_of (c1 := 1) (s1 := 200) (by rw [e, qE_inr]; omega) (by rw [e, qE_inr]; omega) (lst.add gS l3 (by simp) M4 Z4 Y4 k4 nn4 (Nat.le_refl _) (Nat.le_refl _) (fun h5 Y5 l5 => ?_))))
      have bE2 := qB_tl hB (f := 129) (acc := [st]) bq.2
      rw [es2] at hc3 hs3 ep
      refine ro_sts g hB hS rfl 129 mF q3 0 [st] h5 z4 _ _ (by omega) (by unfold mF; omega) (by omega) rfl bq.2 Y5 (t.mo Z4) l5 (by rw [e, qE_inr]; omega) (by rw [e, qE_inr]; omega) ?_ ?_
      · intro q9 l9 e9 h9 z9 Y9 l9 Z9
        obtain ⟨rs, L, k1, k2, k3, k5, k6, k7⟩ := l9.done gS
        exact kok q9 _ (by rw [ep, e9]) h9 z9 x L Y9 ⟨al, rs, hx, k7, k1, k2⟩ (List.nodup_cons.mp k3).2 k6 (Z4.trans Z9)
      · intro e9 w9 h9 z9 p9 Y9 M9 Z9
        exact kerr e9 (by rw [ep, w9]) h9 z9 x p9 Y9 trivial M9 (Z4.trans Z9)
    · have es2 : q_sts xs PR can 130 p2 [] = .inl e8 := by rw [es, e]
      rw [e] at rE bq
      rw [qE_inl] at rE bq
      obtain ⟨⟨alf2, lal2⟩, _⟩ := (l3.mo gS M4 Z4 (by rw [Y4]; simp)).alc
      refine cg_d_of (cg_c_of lal2 (cg_rm_of (c1 := 1) (s1 := 200) (by rw [e, qE_inl]; omega) (by rw [e, qE_inl]; omega) (lst.addE gS l3 (by simp) M4 Z4 Y4 jv (Nat.le_refl _) (Nat.le_refl _) (fun h5 Y5 M5 X5 => ?_))))
      exact ro_stsX (k := 0) (by unfold mF; omega) (by decide) (t.mo Z4) Y5 (by omega) (kerr e8 (by rw [ep, es2]) h5 z4 x _ Y5 trivial M5 Z4)
  -- the path's own cells
  have go : ∀ (fd : Bool), fd = decide (xs.getD p 0 = 47) → w_PathReader_readPath_22 dA WS y K (nI d) (bI fd) (some x) (some x) (c - 1) (s - 2) (hm_u h x (.inr (11, [.int 0, .null]))) z := by
    intro fd efd
    unfold w_PathReader_readPath_22
    refine cg_d_of (cg_c_of hm_s (cg_rm_of (c1 := 1) (s1 := 3) (by omega) (by omega) ?_))
    unfold w_Path_init
    refine ⟨by cases fd <;> decide, cg_p_of hm_s (show 0 < 2 by decide) ?_⟩
    rw [hm_uu]
    refine cg_new_of (Nat.le_refl _) (Nat.le_refl _) (fun al hal => ?_)
    have n1 : al ≠ x := fun w => by rw [w, hm_s] at hal; cases hal
    have hal0 : h al = none := by rw [hm_n n1] at hal; exact hal
    refine cg_c_of hm_s (cg_rm_0 (ja_init hm_s (fun h1 j1 M1 => ?_)))
    have hx1 := M1 _ _ (show (hm_u (hm_u h x _) al _ : hm_T) x = some _ by rw [hm_n (Ne.symm n1)]; exact hm_s) (Ne.symm n1)
    refine cg_p_of hx1 (show 1 < 2 by decide) ?_
    have M2 : ∀ e, hm_mo h (hm_u h1 x e) (fun _ => False) := fun e b v hb _ => by
      rw [hm_n (hm_nn hb hx)]
      refine M1 b v ?_ (hm_nn hb hal0)
      rw [hm_n (hm_nn hb hal0), hm_n (hm_nn hb hx)]
      exact hb
    have Y2 := fun e => M2 e _ _ Y id
    have j2 : ∀ e, ja dA (hm_u h1 x e) al (dA 99) [] := fun e => j1.mo (Y := fun b => b = x) (hm_mo.u rfl) n1 (fun w => absurd rfl w)
    refine cg_d_of (cg_I_of hm_s rfl ?_)
    by_cases q : xs.getD p 0 = 47
    · have e1 : fd = true := efd.trans (decide_eq_true q)
      have hlt := qpos q (by decide)
      refine if_no (by rw [e1]; decide) (cg_I_of (Y2 _) rfl (cg_p_of (Y2 _) (show 1 < 3 by decide) ?_))
      rw [nI_1]
      refine go2 _ (p + 1) al _ _ fd hm_s (by rw [if_pos q]) efd hal0 (Ne.symm n1) (by rw [hm_n xy]; exact hm_s) ((j2 _).mo (Y := fun b => b = y) (hm_mo.u rfl) (Ne.symm (hm_nn Y hal0)) (fun w => absurd rfl w)) (fun b v hb n => ?_) (by omega) (by omega)
      rw [hm_n n]; exact M2 _ _ _ hb id
    · have e1 : fd = false := efd.trans (decide_eq_false q)
      exact if_yes (by rw [e1]; rfl) (go2 _ p al _ _ fd (Y2 _) (by rw [if_neg q]) efd hal0 (Ne.symm n1) hm_s (j2 _) ((M2 _).weak (fun _ w => w.elim)) (by omega) (by omega))
  refine cg_I_of (Y0 _) rfl (cg_c_of (Y0 _) (ro_seen (Y0 _) t (by omega) ?_))
  by_cases q : xs.getD p 0 = 47
  · exact if_yes (by rw [q]; rfl) (go true (decide_eq_true q).symm)
  · exact if_no (fun w => q ((nI_eq (b := 47) (by omega) (by decide)).mp w)) (go false (decide_eq_false q).symm)
end QU7
-- paths in the class: a predicate
theorem q_str_bd {xs : List Nat} {p : Nat} (hp : p ≤ xs.length) : p ≤ qE (q_str xs p) ∧ qE (q_str xs p) ≤ xs.length := by
  unfold q_str
  by_cases q : xs.getD p 0 ≠ 39
  · rw [if_pos q, qE_inl]; omega
  · have := qpos (Decidable.not_not.mp q) (by decide)
    have b := q_quo_le (xs := xs) (p := p + 1) (by omega)
    rw [if_neg q]
    by_cases q2 : xs.length ≤ q_quo xs (p + 1)
    · rw [if_pos q2, qE_inl]; omega
    · rw [if_neg q2, qE_inr]; omega
theorem qB_prd {N : Nat} {xs : List Nat} {PT : Nat → Nat ⊕ (Nat × qPt N)} (hxl : xs.length < 130) (hB : qB xs PT) : qB xs (q_prd xs PT) := by
  intro p0 hp0
  have b := q_bng_sp (xs := xs) 130 p0 false hp0 (by omega)
  unfold q_prd
  generalize (q_bng xs 130 p0 false).1 = p at b ⊢
  generalize (q_bng xs 130 p0 false).2 = neg
  obtain ⟨b1, b2, b3⟩ := b
  have dpos : ∀ i, a_dig (xs.getD i 0) = true → i < xs.length := fun i w => by
    rcases Nat.lt_or_ge i xs.length with q | q
    · exact q
    · rw [List.getD_eq_getElem?_getD, List.getElem?_eq_none q] at w; cases w
  simp only []
  by_cases q1 : a_dig (xs.getD p 0) = true
  · have := dpos _ q1
    rw [if_pos q1]
    by_cases q2 : a_dig (xs.getD (p + 1) 0) = true
    · have := dpos _ q2
      rw [if_pos q2]; exact (show p0 ≤ p + 2 ∧ p + 2 ≤ xs.length by omega)
    · rw [if_neg q2]; exact (show p0 ≤ p + 1 ∧ p + 1 ≤ xs.length by omega)
  rw [if_neg q1]
  by_cases q2 : xs.getD p 0 = 36
  · have := qpos q2 (by decide)
    rw [if_pos q2]; exact (show p0 ≤ p + 1 ∧ p + 1 ≤ xs.length by omega)
  rw [if_neg q2]
  by_cases q3 : xs.getD p 0 = 64
  · have h1 := qpos q3 (by decide)
    have h2 := a_let_le (xs := xs) (p := p + 1) (by omega)
    rw [if_pos q3]
    by_cases q4 : a_let xs (p + 1) = 0
    · rw [if_pos q4, qE_inl]; omega
    rw [if_neg q4]
    by_cases q5 : xs.getD (p + 1 + a_let xs (p + 1)) 0 = 61
    · have h3 := qpos q5 (by decide)
      have b9 := q_str_bd (xs := xs) (p := p + 1 + a_let xs (p + 1) + 1) (by omega)
      rw [if_pos q5]
      cases e : q_str xs (p + 1 + a_let xs (p + 1) + 1) with
      | inl v => rw [e] at b9; simp only [qE] at b9 ⊢; omega
      | inr v => obtain ⟨v1, v2⟩ := v; rw [e] at b9; simp only [qE] at b9 ⊢; omega
    · rw [if_neg q5]; exact (show p0 ≤ p + 1 + a_let xs (p + 1) ∧ p + 1 + a_let xs (p + 1) ≤ xs.length by omega)
  rw [if_neg q3]
  have bt := hB p b2
  cases e : PT p with
  | inl v => rw [e] at bt; simp only [qE] at bt ⊢; omega
  | inr v =>
    obtain ⟨q, pt⟩ := v
    rw [e, qE_inr] at bt
    simp only []
    by_cases q4 : xs.getD q 0 = 61 ∨ xs.getD q 0 = 126
    · have hq : q < xs.length := q4.elim (fun w => qpos w (by decide)) (fun w => qpos w (by decide))
      have b9 := q_str_bd (xs := xs) (p := q + 1) (by omega)
      rw [if_pos q4]
      cases e2 : q_str xs (q + 1) with
      | inl v => rw [e2] at b9; simp only [qE] at b9 ⊢; omega
      | inr v => obtain ⟨v1, v2⟩ := v; rw [e2] at b9; simp only [qE] at b9 ⊢; omega
    · rw [if_neg q4]; exact (show p0 ≤ q ∧ q ≤ xs.length by omega)
section QU8
variable {dA : Nat → ClassId} {xs : List Nat} {y tt x : Nat}
abbrev pP0 (dA : Nat → ClassId) (N : Nat) : hm_T → hz_T → (Nat → Prop) → List Nat → Nat → qPr N → Prop := fun h z F => pP dA h z F (fun _ _ => 0) (fun _ _ => 0) N
/-- the cell of a predicate that is being read -/
def cP (so : Int32) (ng : Bool) (po : Int32) (nm : Nat) (pt : Option Nat) (cm : Int32) (st : Nat) : va_E := .inr (13, [.int so, .int (bI ng), .int po, .ref nm, va_rf pt, .int cm, .ref st, .long 0])
theorem ro_bng {WT : Nat → Int32 → Nat → Nat → (Option Nat → hm_T → hz_T → Prop) → hm_T → hz_T → Prop} {K : Option Nat → hm_T → hz_T → Prop} {nm st d c s : Nat} {z : hz_T} (t : rT z tt xs) (xy : x ≠ y) : ∀ (f fu p k : Nat) (b : Bool) (h : hm_T), xs.length < p + f → xs.length + 2 ≤ k + fu → k ≤ p → p ≤ xs.length → h y = some (r10 tt p (-1)) → h x = some (cP 47 b 0 nm none 32 st) → (∀ h1, h1 y = some (r10 tt (q_bng xs f p b).1 (-1)) → h1 x = some (cP 47 (q_bng xs f p b).2 0 nm none 32 st) → hm_mo h h1 (fun b => b = y ∨ b = x) → w_PathReader_readPredicate_66 dA WT y K (nI d) (some x) c s h1 z) → w_PathReader_readPredicate_10 dA WT y K fu (nI d) (some x) (nI k) c s h z := by
  have t0 := t
  obtain ⟨⟨u, hu⟩, hl, hcx⟩ := t
  intro f
  induction f with
  | zero => intro fu p k b h h1 h2 h3 h4; omega
  | succ f ih =>
    intro fu p k b h hf hfu hk hp Y X hK
    obtain ⟨fu, rfl⟩ : ∃ f, fu = f + 1 := ⟨fu - 1, by omega⟩
    have lc := getD_lt hcx p
    have ep : q_bng xs (f + 1) p b = if xs.getD p 0 = 33 then q_bng xs f (p + 1) (!b) else (p, b) := rfl
    unfold w_PathReader_readPredicate_10
    refine cg_R_ref Y rfl (cg_d_of ⟨u, xs, hu, ?_⟩)
    by_cases q0 : xs.length ≤ k
    · have hn : ¬ xs.getD p 0 = 33 := fun w => by have := qpos w (by decide); omega
      rw [ep, if_neg hn] at hK
      exact if_yes (nI_le q0 (by omega)) (hK h Y X hm_mo.refl)
    refine if_no (nI_ge (by omega) (by omega)) (cg_I_of Y rfl (cg_c_of Y (ro_seen Y t0 (by omega) ?_)))
    by_cases q1 : ¬ xs.getD p 0 = 33
    · rw [ep, if_neg q1] at hK
      exact if_no (fun w => q1 ((nI_eq (b := 33) (by omega) (by decide)).mp w)) (hK h Y X hm_mo.refl)
    have q1 := Decidable.not_not.mp q1
    have hlt := qpos q1 (by decide)
    rw [ep, if_pos q1] at hK
    have fin : ∀ (w0 : Int32), w0 = bI (!b) → w_PathReader_readPredicate_47 dA WT y K (w_PathReader_readPredicate_10 dA WT y K fu) (nI d) (some x) (nI k) w0 (some x) c s h z := by
      intro w0 ew
      unfold w_PathReader_readPredicate_47
      refine cg_d_of ⟨by rw [ew]; cases b <;> decide, cg_p_of X (show 1 < 8 by decide) ?_⟩
      have Y1 : ∀ e, (hm_u h x e : hm_T) y = some (r10 tt p (-1)) := fun e => by rw [hm_n (Ne.symm xy)]; exact Y
      refine cg_I_of (Y1 _) rfl (cg_p_of (Y1 _) (show 1 < 3 by decide) ?_)
      rw [nI_1, nI_1]
      refine ih fu (p + 1) (k + 1) (!b) _ (by omega) (by omega) (by omega) (by omega) hm_s (by rw [hm_n xy, ew]; exact hm_s) (fun h1 k1 k2 k3 => hK h1 k1 k2 ?_)
      exact ((hm_mo.u (Y := fun b => b = y ∨ b = x) (Or.inr rfl)).trans (hm_mo.u (Or.inl rfl))).trans k3
    refine if_yes (by rw [q1]; rfl) (cg_d_of (cg_I_of X rfl ?_))
    cases b with
    | false => exact if_yes rfl (fin 1 rfl)
    | true => exact if_no (by decide) (fin 0 rfl)
theorem ro_prd {N d : Nat} {PT : Nat → Nat ⊕ (Nat × qPt N)} (hB : qB xs PT) {WT : Nat → Int32 → Nat → Nat → (Option Nat → hm_T → hz_T → Prop) → hm_T → hz_T → Prop} (hT : rdC xs PT 7 359 WT (nI d) (tP0 dA (pP0 dA N)) (fun _ _ => True)) : rdC xs (q_prd xs PT) 12 659 (w_PathReader_readPredicate dA WT) (nI d) (pP0 dA (N + 1)) jo := by
  intro y tt p0 h z c s K Y t hp0 hc hs kok kerr
  have hl := t.2.1
  have bE := qB_prd (by omega) hB p0 hp0
  have b := q_bng_sp (xs := xs) 130 p0 false hp0 (by omega)
  unfold w_PathReader_readPredicate
  refine cg_new_of (by omega) (by omega) (fun x hx => cg_c_of hm_s ?_)
  have xy : x ≠ y := Ne.symm (hm_nn Y hx)
  unfold w_Predicate_init
  refine cg_p_of hm_s (show 0 < 8 by decide) (cg_p_of hm_s (show 1 < 8 by decide) (cg_p_of hm_s (show 2 < 8 by decide) (fun nm u hu => cg_p_of hm_s (show 3 < 8 by decide) (cg_p_of hm_s (show 4 < 8 by decide) (cg_p_of hm_s (show 5 < 8 by decide) (fun st v hv => cg_p_of hm_s (show 6 < 8 by decide) (cg_p_of hm_s (show 7 < 8 by decide) ?_)))))))
  rw [hm_uu, hm_uu, hm_uu, hm_uu, hm_uu, hm_uu, hm_uu, hm_uu]
  refine ro_bng (nm := nm) (st := st) t xy 130 mF p0 0 false _ (by omega) (by unfold mF; omega) (by omega) hp0 (by rw [hm_n (Ne.symm xy)]; exact Y) hm_s (fun h1 Y1 X1 M1 => ?_)
  have m1 : hm_mo h h1 (fun b => b = y) := fun b e hb n => M1 b e (by rw [hm_n (hm_nn hb hx)]; exact hb) (fun w => w.elim n (hm_nn hb hx))
  have fr : ∀ {h2 : hm_T}, hm_mo h1 h2 (fun b => b = y ∨ b = x) → hm_mo h h2 (fun b => b = y) := fun {h2} M b e hb n => M b e (m1 b e hb n) (fun w => w.elim n (hm_nn hb hx))
  have eP : ∀ r : Nat ⊕ (Nat × qPr (N + 1)), r = q_prd xs PT p0 → r = (let p := (q_bng xs 130 p0 false).1
    let neg := (q_bng xs 130 p0 false).2
    if a_dig (xs.getD p 0) = true then (if a_dig (xs.getD (p + 1) 0) = true then .inr (p + 2, (neg, 0, 10 * (xs.getD p 0 - 48) + (xs.getD (p + 1) 0 - 48), [], [], false, [])) else .inr (p + 1, (neg, 0, xs.getD p 0 - 48, [], [], false, [])))
    else if xs.getD p 0 = 36 then .inr (p + 1, (neg, 1, 0, [], [], false, []))
    else if xs.getD p 0 = 64 then (if a_let xs (p + 1) = 0 then .inl (p + 1) else if xs.getD (p + 1 + a_let xs (p + 1)) 0 = 61 then (match q_str xs (p + 1 + a_let xs (p + 1) + 1) with
        | .inl e => .inl e
        | .inr (q, s) => .inr (q, (neg, 3, 0, (xs.drop (p + 1)).take (a_let xs (p + 1)), s, false, []))) else .inr (p + 1 + a_let xs (p + 1), (neg, 2, 0, (xs.drop (p + 1)).take (a_let xs (p + 1)), [], false, [])))
    else match PT p with
      | .inl e => .inl e
      | .inr (q, pt) => if xs.getD q 0 = 61 ∨ xs.getD q 0 = 126 then (match q_str xs (q + 1) with
        | .inl e => .inl e
        | .inr (q2, s) => .inr (q2, (neg, (if xs.getD q 0 = 61 then 5 else 6), 0, [], s, pt.1, pt.2))) else .inr (q, (neg, 4, 0, [], [], pt.1, pt.2))) := fun r hr => hr
  have eP := eP _ rfl
  generalize hgp : (q_bng xs 130 p0 false).1 = p at *
  generalize hgn : (q_bng xs 130 p0 false).2 = neg at *
  simp only [] at eP
  obtain ⟨b1, b2, b3⟩ := b
  have lc := getD_lt t.2.2 p
  have jx : ∀ {h2 : hm_T} {fs : List Value}, h2 x = some (.inr (13, fs)) → jo h2 x := fun w => ⟨13, _, w, Or.inr (Or.inr (Or.inr rfl))⟩
  have Yx : ∀ e, (hm_u h1 x e : hm_T) y = some (r10 tt p (-1)) := fun e => by rw [hm_n (Ne.symm xy)]; exact Y1
  have Mx : ∀ e, hm_mo h1 (hm_u h1 x e) (fun b => b = y ∨ b = x) := fun e => hm_mo.u (Or.inr rfl)
  unfold w_PathReader_readPredicate_66
  refine cg_I_of Y1 rfl (cg_c_of Y1 (ro_seen Y1 t (by omega) (ro_dig lc (fun q1 => if_yes rfl ?_) (fun q1 => if_no (by decide) ?_))))
  · rw [if_neg (by rw [q1]; decide)] at eP
    by_cases q2 : xs.getD p 0 = 36
    · have hlt := qpos q2 (by decide)
      rw [if_pos q2] at eP
      refine if_yes (by rw [q2]; rfl) (cg_d_of (cg_p_of X1 (show 0 < 8 by decide) (cg_I_of (Yx _) rfl (cg_p_of (Yx _) (show 1 < 3 by decide) ?_))))
      rw [nI_1]
      exact kok _ _ eP _ z x [x] hm_s ⟨nm, st, u, v, none, [], rfl, hx, by rw [hm_n xy]; exact hm_s, hu, hv, fun _ => ⟨rfl, rfl, rfl⟩, fun w => absurd w (show ¬ 4 ≤ 1 by decide)⟩ (by simp) (fr ((Mx _).trans (hm_mo.u (Or.inl rfl)))) hz_mo.refl
    rw [if_neg q2] at eP
    refine if_no (fun w => q2 ((nI_eq (b := 36) (by omega) (by decide)).mp w)) ?_
    by_cases q3 : xs.getD p 0 = 64
    · have hlt := qpos q3 (by decide)
      have hle := a_let_le (xs := xs) (p := p + 1) (by omega)
      rw [if_pos q3] at eP
      refine if_yes (by rw [q3]; rfl) (cg_d_of (cg_p_of X1 (show 0 < 8 by decide) (cg_I_of (Yx _) rfl (cg_p_of (Yx _) (show 1 < 3 by decide) ?_))))
      rw [nI_1]
      generalize hg : (hm_u (hm_u h1 x _) y _ : hm_T) = h2
      have Y2 : h2 y = some (r10 tt (p + 1) (-1)) := by rw [← hg]; exact hm_s
      have X2 : h2 x = some (cP 64 neg 0 nm none 32 st) := by rw [← hg, hm_n xy]; exact hm_s
      have M2 : hm_mo h1 h2 (fun b => b = y ∨ b = x) := by rw [← hg]; exact (Mx _).trans (hm_mo.u (Or.inl rfl))
      refine cg_c_of Y2 (cg_rm_of (c1 := 2) (s1 := 146) (by omega) (by omega) (ro_name Y2 t (by omega) (Nat.le_refl _) (Nat.le_refl _) (fun h3 z3 t3 Y3 M3 Z3 k3 => ?_)))
      obtain ⟨u3, k3⟩ := k3
      have X3 := M3 _ _ X2 xy
      refine cg_d_of (cg_p_of X3 (show 3 < 8 by decide) (fun a ua ha => ?_))
      generalize hg4 : (hm_u h3 x _ : hm_T) = h4
      have Y4 : h4 y = some (r10 tt (p + 1 + a_let xs (p + 1)) (if a_let xs (p + 1) = 0 then nI (p + 1) else -1)) := by rw [← hg4, hm_n (Ne.symm xy)]; exact Y3
      have X4 : h4 x = some (cP 64 neg 0 t3 none 32 st) := by rw [← hg4]; exact hm_s
      have M4 : hm_mo h1 h4 (fun b => b = y ∨ b = x) := by rw [← hg4]; exact (M2.trans (M3.weak (fun b w => Or.inl w))).trans (hm_mo.u (Or.inr rfl))
      by_cases q4 : a_let xs (p + 1) = 0
      · rw [if_pos q4] at eP Y4
        exact cg_c_of Y4 (cg_rm_0 (ro_cmpF Y4 (by omega) (kerr _ eP h4 z3 x _ Y4 (jx X4) (fr M4) Z3)))
      rw [if_neg q4] at eP Y4
      refine cg_c_of Y4 (cg_rm_of (c1 := 2) (s1 := 146) (by omega) (by omega) (ro_cmp Y4 X4 rfl (t.mo Z3) hle ha (by decide) (by decide) (Nat.le_refl _) (Nat.le_refl _) (fun q5 => ?_) (fun q5 q w e h5 z5 t5 Y5 X5 k5 M5 Z5 => ?_) (fun q5 e w h5 z5 p5 Y5 X5 M5 Z5 => ?_)))
      · have q5 : ¬ xs.getD (p + 1 + a_let xs (p + 1)) 0 = 61 := fun w => q5 (by rw [w]; simp)
        rw [if_neg q5] at eP
        exact kok _ _ eP h4 z3 x [x] Y4 ⟨t3, st, u3, v, none, [], rfl, hx, X4, k3, Z3 _ _ hv, fun _ => ⟨rfl, rfl, rfl⟩, fun w => absurd w (show ¬ 4 ≤ 2 by decide)⟩ (by simp) (fr M4) Z3
      · have q6 : xs.getD (p + 1 + a_let xs (p + 1)) 0 = 61 := by simpa using q5
        obtain ⟨u5, k5⟩ := k5
        rw [if_pos q6, e] at eP
        rw [q6] at X5
        exact kok _ _ eP h5 z5 x [x] Y5 ⟨t3, t5, u3, u5, none, [], rfl, hx, X5, Z5 _ _ k3, k5, fun _ => ⟨rfl, rfl, rfl⟩, fun w => absurd w (show ¬ 4 ≤ 3 by decide)⟩ (by simp) (fr (M4.trans M5)) (Z3.trans Z5)
      · have q6 : xs.getD (p + 1 + a_let xs (p + 1)) 0 = 61 := by simpa using q5
        obtain ⟨fs5, X5⟩ := X5
        rw [if_pos q6, w] at eP
        exact kerr _ eP h5 z5 x _ Y5 (jx X5) (fr (M4.trans M5)) (Z3.trans Z5)
    rw [if_neg q3] at eP
    refine if_no (fun w => q3 ((nI_eq (b := 64) (by omega) (by decide)).mp w)) ?_
    have bt := hB p b2
    have rE : qE (PT p) ≤ qE (q_prd xs PT p0) := by
      rw [eP]
      cases e : PT p with
      | inl v => exact Nat.le_refl _
      | inr v =>
        obtain ⟨q, pt⟩ := v
        rw [e, qE_inr] at bt
        simp only [qE_inr]
        by_cases q4 : xs.getD q 0 = 61 ∨ xs.getD q 0 = 126
        · have hq : q < xs.length := q4.elim (fun w => qpos w (by decide)) (fun w => qpos w (by decide))
          have b9 := q_str_bd (xs := xs) (p := q + 1) (by omega)
          rw [if_pos q4]
          cases e2 : q_str xs (q + 1) with
          | inl v => rw [e2] at b9; simp only [qE] at b9 ⊢; omega
          | inr v => obtain ⟨v1, v2⟩ := v; rw [e2] at b9; simp only [qE] at b9 ⊢; omega
        · rw [if_neg q4]; exact Nat.le_refl _
    refine cg_c_of Y1 (cg_rm_of (c1 := 13 * (qE (PT p) - p) + 7) (s1 := 859 * (qE (PT p) - p) + 359) (by omega) (by omega) (hT y tt p h1 z _ _ _ Y1 t b2 (Nat.le_refl _) (Nat.le_refl _) (fun q pt e h2 z2 pc L Y2 k2 nn2 M2 Z2 => ?_) (fun e8 e h2 z2 pc p2 Y2 _ M2 Z2 => ?_)))
    · rw [e] at eP bt
      rw [qE_inr] at bt
      have X2 := M2 _ _ X1 xy
      refine cg_d_of (cg_p_of X2 (show 4 < 8 by decide) (fun a ua ha => ?_))
      generalize hg4 : (hm_u h2 x _ : hm_T) = h4
      have Y4 : h4 y = some (r10 tt q (-1)) := by rw [← hg4, hm_n (Ne.symm xy)]; exact Y2
      have X4 : h4 x = some (cP 47 neg 0 nm (some pc) 32 st) := by rw [← hg4]; exact hm_s
      have M24 : hm_mo h2 h4 (fun b => b = y ∨ b = x) := by rw [← hg4]; exact hm_mo.u (Or.inr rfl)
      have M4 : hm_mo h1 h4 (fun b => b = y ∨ b = x) := (M2.weak (fun b w => Or.inl w)).trans M24
      -- the path's picture stays
      have nY : ∀ b, h1 b = none → ¬ (b = y ∨ b = x) := fun b hb w => w.elim (fun w => by rw [w, Y1] at hb; cases hb) (fun w => by rw [w, X1] at hb; cases hb)
      have h0n : ∀ b, h1 b = none → h b = none := fun b hb => mo_none m1 (fun b w => by rw [w, Y1]; simp) hb
      have mv : ∀ (h5 : hm_T) (z5 : hz_T), hm_mo h2 h5 (fun b => b = y ∨ b = x) → hz_mo z2 z5 → tP dA h5 z5 (fun b => h b = none) (fun _ _ => 0) (pP dA h5 z5 (fun b => h b = none) (fun _ _ => 0) (fun _ _ => 0) N) L pc (pt.1, pt.2) := fun h5 z5 M5 Z5 => tP.mo M5 Z5 (fun b e _ f => h0n b f) (fun b f w => absurd w (nY b f)) ((gR_P N).mo M5 Z5 (fun b e _ f => h0n b f) (fun b f w => absurd w (nY b f))) L pc pt (fun b _ f => nY b f) k2
      have nxL : (x :: L).Nodup := List.nodup_cons.mpr ⟨fun w => nY x (tP.all (pP.all N) k2 x w).1 (Or.inr rfl), nn2⟩
      refine cg_c_of Y4 (cg_rm_of (c1 := 2) (s1 := 146) (by rw [e, qE_inr]; rw [e, qE_inr] at rE; omega) (by rw [e, qE_inr]; rw [e, qE_inr] at rE; omega) (ro_cmp Y4 X4 rfl (t.mo Z2) bt.2 ha (by decide) (by decide) (Nat.le_refl _) (Nat.le_refl _) (fun q5 => ?_) (fun q5 q9 w e9 h5 z5 t5 Y5 X5 k5 M5 Z5 => ?_) (fun q5 e9 w h5 z5 p5 Y5 X5 M5 Z5 => ?_)))
      · have q5 : ¬ (xs.getD q 0 = 61 ∨ xs.getD q 0 = 126) := fun w => q5 (by rcases w with w | w <;> (rw [w]; simp))
        have eP2 : q_prd xs PT p0 = .inr (q, (neg, 4, 0, [], [], pt.1, pt.2)) := by rw [eP]; simp only []; rw [if_neg q5]
        exact kok _ _ eP2 h4 z2 x (x :: L) Y4 ⟨nm, st, u, v, some pc, L, rfl, hx, X4, Z2 _ _ hu, Z2 _ _ hv, fun w => absurd w (show ¬ 4 < 4 by decide), fun _ => ⟨pc, rfl, mv h4 z2 M24 hz_mo.refl⟩⟩ nxL (fr M4) Z2
      · have q6 : xs.getD q 0 = 61 ∨ xs.getD q 0 = 126 := by simpa using q5
        obtain ⟨u5, k5⟩ := k5
        have eP2 : q_prd xs PT p0 = .inr (q9, (neg, (if xs.getD q 0 = 61 then 5 else 6), 0, [], w, pt.1, pt.2)) := by rw [eP]; simp only []; rw [if_pos q6, e9]
        refine kok _ _ eP2 h5 z5 x (x :: L) Y5 ⟨nm, t5, u, u5, some pc, L, rfl, hx, ?_, Z5 _ _ (Z2 _ _ hu), k5, ?_, fun _ => ⟨pc, rfl, mv h5 z5 (M24.trans M5) Z5⟩⟩ nxL (fr (M4.trans M5)) (Z2.trans Z5)
        · rw [X5]
          rcases q6 with w6 | w6
          · rw [w6]; rfl
          · rw [w6]; rfl
        · intro w9
          exfalso
          simp only [] at w9
          by_cases w8 : xs.getD q 0 = 61
          · rw [if_pos w8] at w9; exact absurd w9 (by decide)
          · rw [if_neg w8] at w9; exact absurd w9 (by decide)
      · have q6 : xs.getD q 0 = 61 ∨ xs.getD q 0 = 126 := by simpa using q5
        obtain ⟨fs5, X5⟩ := X5
        have eP2 : q_prd xs PT p0 = .inl e9 := by rw [eP]; simp only []; rw [if_pos q6, w]
        exact kerr _ eP2 h5 z5 x _ Y5 (jx X5) (fr (M4.trans M5)) (Z2.trans Z5)
    · rw [e] at eP bt
      rw [qE_inl] at bt
      have X2 := M2 _ _ X1 xy
      refine cg_d_of (cg_p_of X2 (show 4 < 8 by decide) (fun a ua ha => ?_))
      have Y4 : ∀ e, (hm_u h2 x e : hm_T) y = some (r10 tt p2 (nI e8)) := fun e => by rw [hm_n (Ne.symm xy)]; exact Y2
      exact cg_c_of (Y4 _) (cg_rm_0 (ro_cmpF (Y4 _) (by omega) (kerr _ eP _ z2 x _ (Y4 _) (jx hm_s) (fr ((M2.weak (fun b w => Or.inl w)).trans (hm_mo.u (Or.inr rfl)))) Z2)))
  · rw [if_pos q1] at eP
    refine cg_d_of (cg_p_of X1 (show 0 < 8 by decide) (cg_c_of (Yx _) (ro_pos (Yx _) t b2 q1 (fun q2 h3 Y3 M3 => ?_) (fun q2 h3 Y3 M3 => ?_))))
    · rw [if_pos q2] at eP
      have X3 := M3 _ _ hm_s xy
      refine cg_d_of (cg_p_of X3 (show 2 < 8 by decide) ?_)
      exact kok _ _ eP _ z x [x] (by rw [hm_n (Ne.symm xy)]; exact Y3) ⟨nm, st, u, v, none, [], rfl, hx, hm_s, hu, hv, fun _ => ⟨rfl, rfl, rfl⟩, fun w => absurd w (show ¬ 4 ≤ 0 by decide)⟩ (by simp) (fr (((Mx _).trans (M3.weak (fun b w => Or.inl w))).trans (hm_mo.u (Or.inr rfl)))) hz_mo.refl
    · rw [if_neg (by rw [q2]; decide)] at eP
      have X3 := M3 _ _ hm_s xy
      refine cg_d_of (cg_p_of X3 (show 2 < 8 by decide) ?_)
      exact kok _ _ eP _ z x [x] (by rw [hm_n (Ne.symm xy)]; exact Y3) ⟨nm, st, u, v, none, [], rfl, hx, hm_s, hu, hv, fun _ => ⟨rfl, rfl, rfl⟩, fun w => absurd w (show ¬ 4 ≤ 0 by decide)⟩ (by simp) (fr (((Mx _).trans (M3.weak (fun b w => Or.inl w))).trans (hm_mo.u (Or.inr rfl)))) hz_mo.refl
end QU8
-- paths in the class: the whole reading
section QU9
variable {dA : Nat → ClassId} {xs : List Nat}
theorem qB_T (hxl : xs.length ≤ 120) : ∀ N : Nat, qB xs (q_T xs N) := by
  intro N
  induction N with
  | zero => exact fun p hp => qB_pth (α := qPr 0) (PR := fun _ => .inl 0) (can := false) (fun w => by cases w) p hp
  | succ N ih => exact fun p hp => qB_pth (α := qPr (N + 1)) (PR := q_prd xs (q_T xs N)) (can := true) (fun _ => qB_prd (by omega) ih) p hp
theorem ro_T (hxl : xs.length ≤ 120) : ∀ (N d fu : Nat), N + d = 3 → N < fu → rdC xs (q_T xs N) 7 359 (w_F_PathReader_readPath dA fu) (nI d) (tP0 dA (pP0 dA N)) (fun _ _ => True) := by
  intro N
  induction N with
  | zero =>
    intro d fu hd hf
    obtain ⟨fu, rfl⟩ : ∃ f, fu = f + 1 := ⟨fu - 1, by omega⟩
    obtain rfl : d = 3 := by omega
    intro y tt p h z c s K
    exact ro_pth (α := qPr 0) (PR := fun _ => .inl 0) (can := false) (gR_P 0) (fun w => by cases w) (ro_step (gR_P 0) (by decide) (by decide) (fun w => by cases w) (fun w => by cases w)) y tt p h z c s K
  | succ N ih =>
    intro d fu hd hf
    obtain ⟨fu, rfl⟩ : ∃ f, fu = f + 1 := ⟨fu - 1, by omega⟩
    intro y tt p h z c s K
    have hB := qB_prd (by omega) (qB_T hxl N)
    exact ro_pth (α := qPr (N + 1)) (PR := q_prd xs (q_T xs N)) (can := true) (gR_P (N + 1)) (fun _ => hB) (ro_step (gR_P (N + 1)) (by omega) ⟨fun _ => by omega, fun _ => rfl⟩ (fun _ => hB) (fun _ => ro_prd (qB_T hxl N) (ih (d + 1) fu (by omega) (by omega)))) y tt p h z c s K
theorem ro_whole {y tt : Nat} {h : hm_T} {z : hz_T} {c s : Nat} (Y : h y = some (r10 tt 0 (-1))) (t : rT z tt xs) (hc : 13 * xs.length + 7 ≤ c) (hs : 859 * xs.length + 359 ≤ s) {K : Option Nat → hm_T → hz_T → Prop}
    (kok : ∀ pt, q_top xs = .inr pt → ∀ (h1 : hm_T) (z1 : hz_T) (v : Nat) (L : List Nat), h1 y = some (r10 tt xs.length (-1)) → tP0 dA (pP0 dA 3) h1 z1 (fun b => h b = none) L v pt → L.Nodup → hm_mo h h1 (fun b => b = y) → hz_mo z z1 → K (some v) h1 z1)
    (kerr : ∀ e, q_top xs = .inl e → e ≤ xs.length → ∀ (h1 : hm_T) (z1 : hz_T) (v p1 : Nat), h1 y = some (r10 tt p1 (nI e)) → hm_mo h h1 (fun b => b = y) → hz_mo z z1 → K (some v) h1 z1) : w_PathReader_readWhole dA y c s K h z := by
  have hl := t.2.1
  have b := qB_T hl 3 0 (Nat.zero_le _)
  unfold w_PathReader_readWhole w_T_PathReader_readPath
  refine cg_c_of Y (cg_rm_of (c1 := 13 * xs.length + 7) (s1 := 859 * xs.length + 359) hc hs (ro_T hl 3 0 8 rfl (by decide) y tt 0 h z _ _ _ Y t (Nat.zero_le _) (by omega) (by omega) (fun q x e h1 z1 v L Y1 k1 nn M1 Z1 => ?_) (fun e8 e h1 z1 v p1 Y1 _ M1 Z1 => ?_)))
  · rw [e, qE_inr] at b
    refine cg_c_of Y1 (ro_failed0 Y1 (if_yes rfl (cg_c_of Y1 (ro_readEnd Y1 (t.mo Z1) (by omega) (fun q2 => ?_) (fun q2 h2 Y2 M2 => ?_)))))
    · have et : q_top xs = .inr x := by unfold q_top; rw [e]; simp only []; rw [if_pos q2]
      rw [q2] at Y1
      exact kok x et h1 z1 v L Y1 k1 nn M1 Z1
    · have et : q_top xs = .inl q := by unfold q_top; rw [e]; simp only []; rw [if_neg q2]
      exact kerr q et b.2 h2 z1 v q Y2 (M1.trans M2) Z1
  · rw [e, qE_inl] at b
    have et : q_top xs = .inl e8 := by unfold q_top; rw [e]
    exact cg_c_of Y1 (ro_failed1 Y1 (by omega) (if_no (by decide) (kerr e8 et b.2 h1 z1 v p1 Y1 M1 Z1)))
end QU9
