-- the class's walker: predicates and steps
/-- the long in a prepared step, in a prepared predicate -/
def kfD (n : Nat) (D : Nat → nd) (k : Nat) (nm : List Nat) : Int64 := bO (q_kd D k nm) n
def hbD (n : Nat) (D : Nat → nd) (N : Nat) (pr : qPr (N + 1)) (y : Nat) : Bool := if pr.2.1 < 4 then q_hat D pr.2.1 pr.2.2.2.1 pr.2.2.2.2.1 y else q_hit n D (q_H n D N) pr.2.1 pr.2.2.2.2.1 pr.2.2.2.2.2.1 pr.2.2.2.2.2.2 y
def hfD (n : Nat) (D : Nat → nd) : (N : Nat) → qPr N → Int64
  | 0, _ => 0
  | N + 1, pr => if pr.2.1 < 2 then 0 else bO (hbD n D N pr) n
/-- what is known of a path that was read -/
def vSt {α : Type} (V : α → Prop) (s : Nat × Nat × List Nat × List α) : Prop := s.1 ≤ 10 ∧ s.2.1 ≤ 4 ∧ cs s.2.2.1 ∧ ∀ pr ∈ s.2.2.2, V pr
def vPr : (N : Nat) → qPr N → Prop
  | 0, _ => False
  | N + 1, pr => pr.2.1 < 7 ∧ (pr.2.1 = 0 → pr.2.2.1 < 100) ∧ (pr.2.1 = 2 ∨ pr.2.1 = 3 → cs pr.2.2.2.1) ∧ (pr.2.1 = 3 ∨ 5 ≤ pr.2.1 → cs pr.2.2.2.2.1) ∧ (4 ≤ pr.2.1 → pr.2.2.2.2.2.2 ≠ [] ∧ ∀ s ∈ pr.2.2.2.2.2.2, vSt (vPr N) s)
section QV6
variable {dA : Nat → ClassId} {h h1 : hm_T} {z z1 : hz_T} {w a n : Nat} {B : Nat → Nat} {D : Nat → nd} {F : Nat → Prop}
theorem jF.sz {al : Nat} {rs : List Nat} (j : jF dA h F al rs) {K : Int32 → Prop} (hK : K (nI rs.length)) : jd_sz h al K := by
  obtain ⟨d, ⟨mo, c1, c2⟩, f1, f2⟩ := j
  exact ⟨d, rs.length, mo, c1, hK⟩
theorem jF.le {al : Nat} {rs : List Nat} (j : jF dA h F al rs) : rs.length ≤ 200 := by
  obtain ⟨d, ⟨mo, c1, c2⟩, f1, f2⟩ := j
  rcases c2 with ⟨e, _⟩ | ⟨e, n, f, c3, l1, l2, _⟩
  · rw [e]; exact Nat.zero_le _
  · omega
theorem jF.get {al : Nat} {ra rb : List Nat} {r : Nat} (j : jF dA h F al (ra ++ r :: rb)) {K : Nat → Prop} (hK : K r) : jd_get dA h al (nI ra.length) K := by
  have hl := j.le
  rw [List.length_append, List.length_cons] at hl
  obtain ⟨d, ⟨mo, c1, c2⟩, f1, f2⟩ := j
  rcases c2 with ⟨e, _⟩ | ⟨e, n, f, c3, l1, l2, l3⟩
  · simp at e
  · have l4 := l3 ra.length (by rw [List.length_append, List.length_cons]; omega)
    have e2 : (ra ++ r :: rb).getD ra.length 0 = r := by
      rw [List.getD_eq_getElem?_getD, List.getElem?_append_right (Nat.le_refl _), Nat.sub_self]
      rfl
    rw [e2] at l4
    exact ⟨d, (ra ++ r :: rb).length, mo, n, ra.length, r, f, c1, c3, rfl, by rw [List.length_append, List.length_cons]; omega, l1, by omega, l4, hK⟩
theorem flt_cg {f g : Nat → Nat → Nat → Bool} {of : Nat} : ∀ (l : List Nat) (k : Nat), (∀ x k, f x k of = g x k of) → q_flt f of k l = q_flt g of k l := by
  intro l
  induction l with
  | nil => intro k _; rfl
  | cons x l ih =>
    intro k e
    unfold q_flt
    rw [e x k, ih (k + 1) e]
theorem posB_cg {S S2 : Nat → Bool} {p : Nat} : ∀ (L : List Nat) (c y : Nat), (∀ x ∈ L, S x = S2 x) → posB S p L c y = posB S2 p L c y := by
  intro L
  induction L with
  | nil => intro c y _; rfl
  | cons x L ih =>
    intro c y e
    unfold posB
    rw [e x List.mem_cons_self, ih _ y (fun x hx => e x (List.mem_cons_of_mem _ hx)), ih _ y (fun x hx => e x (List.mem_cons_of_mem _ hx))]
theorem wk_posL (G : wk dA h z w a n B D) {p : Nat} (hp : p < 1000) {mm : Int64} {bk : Bool} {K : Int64 → hm_T → hz_T → Prop} : ∀ (r fu k c : Nat), k + r = n → r < fu → c ≤ k → (∀ v, (∀ y, y < 64 → bt v y = posB (bt mm) p ((dirL n bk).drop k) c y) → K v h z) → w_Walker_atPosition_6 dA w K fu (nI p) mm (bI bk) (nI c) (nI k) h z := by
  have hn := G.hn
  intro r
  induction r with
  | zero =>
    intro fu k c hk hr hc hK
    obtain ⟨fu, rfl⟩ : ∃ f, fu = f + 1 := ⟨fu - 1, by omega⟩
    obtain rfl : k = n := by omega
    unfold w_Walker_atPosition_6
    refine G.size (if_yes (nI_le (Nat.le_refl _) (by omega)) (hK 0 (fun y hy => ?_)))
    have e : (dirL k bk).drop k = [] := by
      refine List.drop_eq_nil_of_le ?_
      cases bk with
      | true => show (List.range k).reverse.length ≤ k; simp
      | false => show (List.range k).length ≤ k; simp
    rw [e, b_zero]
    rfl
  | succ r ih =>
    intro fu k c hk hr hc hK
    obtain ⟨fu, rfl⟩ : ∃ f, fu = f + 1 := ⟨fu - 1, by omega⟩
    have hkn : k < n := by omega
    rw [dir_drop hkn] at hK
    have hd : dpl n bk k < 64 := by unfold dpl; split <;> omega
    have go : w_Walker_atPosition_40 dA w K (w_Walker_atPosition_6 dA w K fu) (nI p) mm (bI bk) (nI c) (nI k) (nI (dpl n bk k)) h z := by
      unfold posB at hK
      unfold w_Walker_atPosition_40 w_Walker_atPosition_64 w_Walker_atPosition_83
      cases e : bt mm (dpl n bk k) with
      | false =>
        rw [e] at hK
        have e0 := (b_bit0 hd).mpr e
        refine if_yes e0 (if_yes e0 ?_)
        rw [nI_1, show nI c + 0 = nI c from Int32.add_zero _]
        exact ih fu (k + 1) c (by omega) (by omega) (by omega) hK
      | true =>
        rw [e] at hK
        have e0 : ¬ mm_cmp (mm &&& ((1 : Int64) <<< ((nI (dpl n bk k)).toInt64 &&& 63))) 0 = 0 := fun q => by rw [(b_bit0 hd).mp q] at e; cases e
        refine if_no e0 (if_no e0 ?_)
        rw [nI_1, nI_1]
        by_cases q : c + 1 = p
        · refine if_yes (by rw [q]) (hK _ (fun y hy => ?_))
          rw [b_bit hd hy, e, Bool.true_and, if_pos rfl, if_pos q]
        · refine if_no (fun x => q ((nI_eq (by omega) (by omega)).mp x)) ?_
          rw [if_pos rfl] at hK
          refine ih fu (k + 1) (c + 1) (by omega) (by omega) (by omega) (fun v hv => hK v (fun y hy => ?_))
          rw [if_neg q]
          exact hv y hy
    unfold w_Walker_atPosition_6
    refine G.size (if_no (nI_ge (by omega) (by omega)) ?_)
    cases bk with
    | false => exact if_yes rfl go
    | true =>
      refine if_no (by decide) (G.size ?_)
      have e : nI n - 1 - nI k = nI (n - 1 - k) := by rw [show (1 : Int32) = nI 1 from rfl, nI_sub (by omega), nI_sub (by omega)]
      rw [e]
      exact go
theorem wk_pos (G : wk dA h z w a n B D) {p : Nat} (hp : p < 1000) {mm : Int64} {bk : Bool} {K : Int64 → hm_T → hz_T → Prop} (hK : ∀ v, (∀ y, y < 64 → bt v y = posB (bt mm) p (dirL n bk) 0 y) → K v h z) : w_Walker_atPosition dA w (nI p) mm (bI bk) K h z := by
  have hn := G.hn
  unfold w_Walker_atPosition
  exact wk_posL G hp n mF 0 0 (by omega) (by unfold mF; omega) (Nat.le_refl _) (fun v hv => hK v (fun y hy => by rw [hv y hy, List.drop_zero]))
theorem wk_s53 {c : Nat} {v0 v2 v3 v4 v5 v6 v7 : Value} {neg : Bool} (c0 : h c = some (.inr (13, [v0, .int (bI neg), v2, v3, v4, v5, v6, v7]))) {mm x5 : Int64} {S T : Nat → Bool} (hm : bR mm S) (hx : ∀ y, y < 64 → S y = true → bt x5 y = T y) {K : Int64 → hm_T → hz_T → Prop} (hK : ∀ v, bR v (fun y => S y && (neg != T y)) → K v h z) : w_Walker_sift_53 dA w K (some c) mm x5 h z := by
  unfold w_Walker_sift_53 w_Walker_sift_72
  refine cg_d_of (cg_I_of c0 rfl ?_)
  cases neg with
  | false =>
    refine if_yes rfl (hK _ (bR.mk (fun y hy => ?_)))
    rw [b_and, (hm.at hy)]
    cases e : S y with
    | false => rfl
    | true => rw [hx y hy e]; cases T y <;> rfl
  | true =>
    refine if_no (by decide) (hK _ (bR.mk (fun y hy => ?_)))
    rw [b_and, (hm.at hy), b_not hy]
    cases e : S y with
    | false => rfl
    | true => rw [hx y hy e]; cases T y <;> rfl
theorem q_prc_in : ∀ i, i < 7 → ((nI (q_prc1 i) = 49 ↔ i = 0) ∧ (nI (q_prc1 i) = 36 ↔ i = 1) ∧ (nI (q_prc1 i) = 64 ↔ (i = 2 ∨ i = 3))) := by decide +kernel
theorem wk_sift (G : wk dA h z w a n B D) {N : Nat} {L : List Nat} {c : Nat} {pr : qPr N} (p : pP dA h z F (kfD n D) (hfD n D) N L c pr) (vp : vPr N pr) {bk : Bool} {l : List Nat} {mm : Int64} (s : srt bk l) (hl : ∀ y ∈ l, y < n) (hm : bR mm (fun y => decide (y ∈ l))) {K : Int64 → hm_T → hz_T → Prop} (hK : ∀ v, bR v (fun y => decide (y ∈ q_flt (q_H n D N pr) l.length 1 l)) → K v h z) : w_Walker_sift dA w (some c) mm (bI bk) K h z := by
  have hn := G.hn
  cases N with
  | zero => exact vp.elim
  | succ N =>
    obtain ⟨v1, v2, v3, v4, v5⟩ := vp
    obtain ⟨nm, st, u, v, po, L2, eL, f, c0, c1, c2, c3, c4⟩ := p
    obtain ⟨i0, i1, i2⟩ := q_prc_in pr.2.1 v1
    have can := srt_can s hl
    have hlen : l.length ≤ 64 := by
      have := srt_len hn s hl hm
      rw [← this]
      unfold pcB
      exact Nat.le_trans (List.length_filter_le _ _) (by rw [List.length_range]; exact Nat.le_refl _)
    have pos : ∀ (q : Nat), q < 1000 → (∀ x k, q_H n D (N + 1) pr x k l.length = (pr.1 != decide (k = q))) → ∀ v, (∀ y, y < 64 → bt v y = posB (bt mm) q (dirL n bk) 0 y) → w_Walker_sift_53 dA w K (some c) mm v h z := fun q hq hH v hv => by
      refine wk_s53 c0 hm (T := posB (fun y => decide (y ∈ l)) q (dirL n bk) 0) (fun y hy _ => ?_) (fun v9 hv9 => hK v9 (bR_cg hv9 (fun y hy => ?_)))
      · rw [hv y hy]
        exact posB_cg _ _ _ (fun x hx => hm.at (by have := dir_mem.mp hx; omega))
      · have e1 : q_flt (q_H n D (N + 1) pr) l.length 1 l = q_flt (fun _ k _ => pr.1 != decide (k = q)) l.length (0 + 1) ((dirL n bk).filter (fun y => decide (y ∈ l))) := by
          rw [can]
          exact flt_cg l 1 hH
        rw [e1]
        have e2 := flt_pos (S := fun y => decide (y ∈ l)) (neg := pr.1) (p := q) (of := l.length) (dirL n bk) 0 y srt_dir.nodup
        rw [Bool.eq_iff_iff, decide_eq_true_iff, e2, Bool.and_eq_true, decide_eq_true_iff]
        exact ⟨fun k => ⟨dir_mem.mpr (hl y k.1), k⟩, fun k => k.2⟩
    unfold w_Walker_sift
    refine cg_d_of (cg_L_of c0 rfl (cg_d_of (cg_I_of c0 rfl ?_)))
    by_cases q0 : pr.2.1 = 0
    · refine if_yes (i0.mpr q0) (cg_d_of (cg_I_of c0 rfl (cg_c_of G.W (wk_pos G (by have := v2 q0; omega) (fun v hv => pos pr.2.2.1 (by have := v2 q0; omega) (fun x k => ?_) v hv)))))
      show (pr.1 != (if pr.2.1 = 0 then _ else _)) = _
      rw [if_pos q0]
    refine if_no (fun e => q0 (i0.mp e)) (cg_d_of (cg_I_of c0 rfl ?_))
    by_cases q1 : pr.2.1 = 1
    · refine if_yes (i1.mpr q1) (cg_bits ?_)
      rw [srt_len hn s hl hm]
      refine cg_c_of G.W (wk_pos G (by omega) (fun v hv => pos l.length (by omega) (fun x k => ?_) v hv))
      show (pr.1 != (if pr.2.1 = 0 then _ else if pr.2.1 = 1 then _ else _)) = _
      rw [if_neg q0, if_pos q1]
    refine if_no (fun e => q1 (i1.mp e)) ?_
    have eh : hfD n D (N + 1) pr = bO (hbD n D N pr) n := if_neg (by omega)
    refine wk_s53 c0 hm (T := hbD n D N pr) (fun y hy e => ?_) (fun v9 hv9 => hK v9 (bR_cg hv9 (fun y hy => ?_)))
    · rw [eh, b_O hy n (by omega), decide_eq_true (hl y (of_decide_eq_true e)), Bool.true_and]
    · have e1 : q_flt (q_H n D (N + 1) pr) l.length 1 l = l.filter (fun y => pr.1 != hbD n D N pr y) := by
        rw [← flt_all (of := l.length) l 1]
        refine flt_cg l 1 (fun x k => ?_)
        show (pr.1 != (if pr.2.1 = 0 then _ else if pr.2.1 = 1 then _ else _)) = _
        rw [if_neg q0, if_neg q1]
        rfl
      rw [e1, Bool.eq_iff_iff, decide_eq_true_iff, List.mem_filter, Bool.and_eq_true, decide_eq_true_iff]
theorem wk_back (G : wk dA h z w a n B D) {c i : Nat} {v1 v2 v3 v4 : Value} (c0 : h c = some (.inr (12, [.int (nI (q_axc i)), v1, v2, v3, v4]))) (hi : i ≤ 10) {K : Int32 → hm_T → hz_T → Prop} (hK : K (bI (axB i)) h z) : w_Step_goesBackwards dA c K h z := by
  obtain ⟨i4, i5, i1, i2, i9, i8, i7, i3, i10, i6, i0⟩ := q_axc_in i (by omega)
  have yes : (i = 4 ∨ i = 5 ∨ i = 8 ∨ i = 10) → w_Step_goesBackwards_36 dA c K h z := fun q => by
    unfold w_Step_goesBackwards_36
    rw [show axB i = true from decide_eq_true q] at hK
    exact hK
  unfold w_Step_goesBackwards
  refine cg_I_of c0 rfl ?_
  by_cases q4 : i = 4
  · exact if_yes (i4.mpr q4) (yes (Or.inl q4))
  refine if_no (fun e => q4 (i4.mp e)) (cg_I_of c0 rfl ?_)
  by_cases q5 : i = 5
  · exact if_yes (i5.mpr q5) (yes (Or.inr (Or.inl q5)))
  refine if_no (fun e => q5 (i5.mp e)) (cg_I_of c0 rfl ?_)
  by_cases q8 : i = 8
  · exact if_yes (i8.mpr q8) (yes (Or.inr (Or.inr (Or.inl q8))))
  refine if_no (fun e => q8 (i8.mp e)) (cg_I_of c0 rfl ?_)
  by_cases q10 : i = 10
  · exact if_yes (i10.mpr q10) (yes (Or.inr (Or.inr (Or.inr q10))))
  refine if_no (fun e => q10 (i10.mp e)) ?_
  rw [show axB i = false from decide_eq_false (by omega)] at hK
  exact hK
theorem wk_l45 (G : wk dA h z w a n B D) {N : Nat} {c al i : Nat} {v1 v2 v4 : Value} (c0 : h c = some (.inr (12, [.int (nI (q_axc i)), v1, v2, .ref al, v4]))) (hi : i ≤ 10) {K : Int64 → hm_T → hz_T → Prop} : ∀ (ps : List (qPr N)) (ra rb L : List Nat) (fu : Nat) (l : List Nat) (mm : Int64), jF dA h F al (ra ++ rb) → pl (pP dA h z F (kfD n D) (hfD n D) N) L rb ps → (∀ pr ∈ ps, vPr N pr) → ps.length < fu → srt (axB i) l → (∀ y ∈ l, y < n) → bR mm (fun y => decide (y ∈ l)) → (∀ v, bR v (fun y => decide (y ∈ q_sft (q_H n D N) ps l)) → K v h z) → w_Walker_lead_45 dA w K fu (some c) mm (nI ra.length) h z := by
  intro ps
  induction ps with
  | nil =>
    intro ra rb L fu l mm j p vp hf s hl hm hK
    obtain ⟨fu, rfl⟩ : ∃ f, fu = f + 1 := ⟨fu - 1, by omega⟩
    have hle := j.le
    cases rb with
    | cons r rb => exact p.elim
    | nil =>
      unfold w_Walker_lead_45
      rw [List.append_nil] at j
      exact cg_d_of (cg_R_ref c0 rfl (cg_d_of (j.sz (if_yes (nI_le (Nat.le_refl _) (by rw [List.append_nil] at hle; omega)) (hK mm hm)))))
  | cons pr ps ih =>
    intro ra rb L fu l mm j p vp hf s hl hm hK
    obtain ⟨fu, rfl⟩ : ∃ f, fu = f + 1 := ⟨fu - 1, by omega⟩
    have hle := j.le
    cases rb with
    | nil => exact p.elim
    | cons r rb =>
      obtain ⟨L1, L2, eL, p1, p2⟩ := p
      rw [List.length_append, List.length_cons] at hle
      obtain ⟨fs, c13⟩ : ∃ fs, h r = some (.inr (13, fs)) := by
        cases N with
        | zero => exact p1.elim
        | succ N => obtain ⟨nm, st, u, v, po, L2, eL, f, c0, _⟩ := p1; exact ⟨_, c0⟩
      unfold w_Walker_lead_45
      refine cg_d_of (cg_R_ref c0 rfl (cg_d_of (j.sz (if_no (nI_ge (by rw [List.length_append, List.length_cons]; omega) (by rw [List.length_append, List.length_cons]; omega)) (cg_d_of (cg_R_ref c0 rfl (cg_d_of (j.get (cg_c_of c13 (cg_d_of (cg_c_of c0 (wk_back G c0 hi (cg_c_of G.W (wk_sift G p1 (vp pr List.mem_cons_self) s hl hm (fun v hv => ?_)))))))))))))))
      have e1 : nI ra.length + 1 = nI (ra ++ [r]).length := by rw [nI_1, List.length_append]; rfl
      rw [e1]
      exact ih (ra ++ [r]) rb L2 fu (q_flt (q_H n D N pr) l.length 1 l) v (by rw [List.append_assoc]; exact j) p2 (fun q hq => vp q (List.mem_cons_of_mem _ hq)) (by simp at hf; omega) s.flt (fun y hy => hl y (q_flt_mem _ _ _ hy)) hv hK
/-- where a prepared step leads -/
theorem wk_lead (G : wk dA h z w a n B D) {N : Nat} {L : List Nat} {c : Nat} {s : qSt N} (p : sP dA h z F (kfD n D) (pP dA h z F (kfD n D) (hfD n D) N) L c s) (vs : vSt (vPr N) s) (h0 : 0 < n) {xo : Option Nat} (hxo : ∀ x, xo = some x → x < n) {K : Int64 → hm_T → hz_T → Prop} (hK : ∀ v, bR v (fun y => decide (y ∈ q_stp n D (q_H n D N) s xo)) → K v h z) : w_Walker_lead dA w (some c) (oX xo) K h z := by
  have hn := G.hn
  obtain ⟨mk, ok⟩ := G.ok
  obtain ⟨nm, al, u, rs, L2, eL, f, c0, c1, j, p2⟩ := p
  obtain ⟨v1, v2, v3, v4⟩ := vs
  have hle := j.le
  have l33 : ∀ m, bR m (fun y => decide (y ∈ q_ax n D s.1 xo)) → w_Walker_lead_33 dA w K (some c) m h z := fun m hm => by
    unfold w_Walker_lead_33
    refine cg_d_of (cg_L_of c0 rfl ?_)
    have := wk_l45 (ra := []) G c0 v1 (K := K) s.2.2.2 rs L2 mF ((q_ax n D s.1 xo).filter (q_kd D s.2.1 s.2.2.1)) (m &&& kfD n D s.2.1 s.2.2.1) j p2 v4 (by rw [← pl.len _ _ _ p2]; unfold mF; omega) ((q_ax_srt ok v1 hxo).filter _) (fun y hy => q_ax_lt ok hxo y (List.mem_filter.mp hy).1) (fun y hy => ?_) hK
    · exact this
    · rw [b_and, (hm.at hy)]
      unfold kfD
      rw [b_O hy n (by omega), Bool.eq_iff_iff, Bool.and_eq_true, Bool.and_eq_true, decide_eq_true_iff, decide_eq_true_iff, decide_eq_true_iff, List.mem_filter]
      exact ⟨fun k => ⟨k.1, k.2.2⟩, fun k => ⟨k.1, q_ax_lt ok hxo y k.1, k.2⟩⟩
  unfold w_Walker_lead
  cases xo with
  | none => exact if_yes rfl (cg_d_of (cg_I_of c0 rfl (cg_c_of G.W (wk_docAxis G v1 h0 (fun v hv => l33 v hv)))))
  | some x =>
    have hx := hxo x rfl
    refine if_no (fun e => ?_) (cg_d_of (cg_I_of c0 rfl (G.node hx (cg_c_of G.W (wk_axis G v1 hx (fun v hv => l33 v hv))))))
    have := congrArg Int32.toInt e
    rw [show (oX (some x)).toInt = (x : Int) from nI_toInt (by omega), show (-1 : Int32).toInt = -1 by decide] at this
    omega
end QV6
