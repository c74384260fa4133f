-- the label between two
def a_odd (x : Int32) : Bool := decide (x &&& 1 = 1)
def a_abv (x : Int32) : Int32 := if a_odd x then x + 2 else x + 1
def a_blw (x : Int32) : Int32 := if a_odd x then x - 2 else x - 1
/-- acc is what stands already; a and b are the neighbours' labels -/
def a_lb : Nat → List Int32 → Option (List Int32) → Option (List Int32) → List Int32
  | 0, acc, _, _ => acc
  | f + 1, acc, a, b => if 16 < acc.length then acc else match a, b with
    | none, none => acc ++ [1]
    | some l, none => acc ++ [if acc.length < l.length then a_abv (l.getD acc.length 0) else 1]
    | none, some r => acc ++ [if acc.length < r.length then a_blw (r.getD acc.length 0) else 1]
    | some l, some r => if acc.length < l.length then (if acc.length < r.length then (if a_abv (l.getD acc.length 0) < r.getD acc.length 0 then acc ++ [a_abv (l.getD acc.length 0)] else if a_odd (l.getD acc.length 0) = true ∧ a_odd (r.getD acc.length 0) = true then acc ++ [l.getD acc.length 0 + 1, 1] else if l.getD acc.length 0 = r.getD acc.length 0 then a_lb f (acc ++ [l.getD acc.length 0]) a b else if a_odd (l.getD acc.length 0) = false then a_lb f (acc ++ [l.getD acc.length 0]) a none else a_lb f (acc ++ [r.getD acc.length 0]) none b) else acc ++ [a_abv (l.getD acc.length 0)]) else acc ++ [if acc.length < r.length then a_blw (r.getD acc.length 0) else 1]
theorem a_lb_len : ∀ (f : Nat) (acc : List Int32) (a b : Option (List Int32)), acc.length ≤ 17 → (∀ l, a = some l → l.length ≤ 16) → (∀ l, b = some l → l.length ≤ 16) → acc.length ≤ (a_lb f acc a b).length ∧ (a_lb f acc a b).length ≤ 17 := by
  intro f
  induction f with
  | zero => intro acc a b h _ _; exact ⟨Nat.le_refl _, h⟩
  | succ f ih =>
    intro acc a b h ha hb
    unfold a_lb
    by_cases q : 16 < acc.length
    · rw [if_pos q]; exact ⟨Nat.le_refl _, h⟩
    rw [if_neg q]
    have one : ∀ v : Int32, acc.length ≤ (acc ++ [v]).length ∧ (acc ++ [v]).length ≤ 17 := fun v => by rw [List.length_append]; simp; omega
    have step : ∀ (v : Int32) (a b : Option (List Int32)), (∀ l, a = some l → l.length ≤ 16) → (∀ l, b = some l → l.length ≤ 16) → acc.length ≤ (a_lb f (acc ++ [v]) a b).length ∧ (a_lb f (acc ++ [v]) a b).length ≤ 17 := fun v a b ha hb => by
      have := ih (acc ++ [v]) a b (one v).2 ha hb
      have := (one v).1
      omega
    cases a with
    | none =>
      cases b with
      | none => exact one _
      | some r => exact one _
    | some l =>
      cases b with
      | none => exact one _
      | some r =>
        simp only []
        have := ha l rfl
        split
        · split
          · split
            · exact one _
            · split
              · rw [List.length_append]; simp; omega
              · split
                · exact step _ _ _ ha hb
                · split
                  · exact step _ _ _ ha (fun l w => by cases w)
                  · exact step _ _ _ (fun l w => by cases w) hb
          · exact one _
        · exact one _
section PQ9
variable {dA : Nat → ClassId} {h : hm_T} {z : hz_T}
theorem lb_odd {x : Int32} {K : Int32 → hm_T → hz_T → Prop} (hK : K (if a_odd x then 1 else 0) h z) : w_Node_isOdd dA x K h z := by
  unfold w_Node_isOdd
  unfold a_odd at hK
  by_cases q : x &&& 1 = 1
  · rw [if_pos (decide_eq_true q)] at hK; exact if_yes q hK
  · rw [if_neg (by simp [q])] at hK; exact if_no q hK
theorem lb_abv {x : Int32} {K : Int32 → hm_T → hz_T → Prop} (hK : K (a_abv x) h z) : w_Node_oddAbove dA x K h z := by
  unfold w_Node_oddAbove
  unfold a_abv at hK
  refine lb_odd ?_
  by_cases q : a_odd x = true
  · rw [if_pos q] at hK ⊢; exact if_no (by decide) hK
  · rw [if_neg q] at hK ⊢; exact if_yes rfl hK
theorem lb_blw {x : Int32} {K : Int32 → hm_T → hz_T → Prop} (hK : K (a_blw x) h z) : w_Node_oddBelow dA x K h z := by
  unfold w_Node_oddBelow
  unfold a_blw at hK
  refine lb_odd ?_
  by_cases q : a_odd x = true
  · rw [if_pos q] at hK ⊢; exact if_no (by decide) hK
  · rw [if_neg q] at hK ⊢; exact if_yes rfl hK
/-- the row holds what stands already -/
def lbR (dA : Nat → ClassId) (h : hm_T) (w : Nat) (acc : List Int32) : Prop := ∃ f : Nat → Int32, h w = some (.inl (dA 0, 18, .inl f)) ∧ ∀ j, j < acc.length → f j = acc.getD j 0
def lbL (dA : Nat → ClassId) (h : hm_T) (w : Nat) (x : Option Nat) (a : Option (List Int32)) : Prop := match x, a with
  | none, none => True
  | some l, some lab => cp_lab dA h l lab ∧ l ≠ w ∧ lab.length ≤ 16
  | _, _ => False
theorem lbL.mo {h1 : hm_T} {w : Nat} {x : Option Nat} {a : Option (List Int32)} (k : lbL dA h w x a) (M : hm_mo h h1 (fun b => b = w)) : lbL dA h1 w x a := by
  unfold lbL at *
  cases x with
  | none =>
    cases a with
    | none => exact k
    | some lab => exact k
  | some l =>
    cases a with
    | none => exact k
    | some lab => exact ⟨k.1.mo M k.2.1, k.2⟩
theorem lbR.put {w : Nat} {acc : List Int32} {v : Int32} (k : lbR dA h w acc) (hl : acc.length < 18) {K : hm_T → Prop} (hK : ∀ h1, lbR dA h1 w (acc ++ [v]) → hm_mo h h1 (fun b => b = w) → K h1) : cg_si dA h 0 w (nI acc.length) v K := by
  obtain ⟨f, c, hf⟩ := k
  refine cg_si_of c hl (by omega) (hK _ ⟨_, hm_s, fun j hj => ?_⟩ (hm_mo.u rfl))
  rw [List.length_append] at hj
  unfold upd
  by_cases q : j = acc.length
  · rw [if_pos q, q, List.getD_eq_getElem?_getD, List.getElem?_append_right (Nat.le_refl _), Nat.sub_self]; rfl
  · have hj2 : j < acc.length := by simp at hj; omega
    rw [if_neg q, List.getD_eq_getElem?_getD, List.getElem?_append_left hj2, ← List.getD_eq_getElem?_getD]
    exact hf j hj2
theorem lb_end {w : Nat} {acc : List Int32} (k : lbR dA h w acc) (hl : acc.length ≤ 17) {c s : Nat} (hc : 1 ≤ c) (hs : 18 ≤ s) {K : Option Nat → hm_T → hz_T → Prop} (hK : ∀ (h1 : hm_T) (l1 : Nat), cp_lab dA h1 l1 acc → h l1 = none → hm_mo h h1 (fun _ => False) → K (some l1) h1 z) : w_Node_labelBetween_281 dA K (some w) (nI acc.length) c s h z := by
  obtain ⟨f, f1, f2⟩ := k
  unfold w_Node_labelBetween_281 w_Arrays_copyOfI
  refine cg_rm_of hc hs (cg_d_of (cg_al_of f1 (if_no (fun q => by have := (nI_eq (by omega) (by omega)).mp q; omega) ⟨acc.length, 0, 18 - acc.length, rfl, by omega, rfl, by omega, fun q hq => ?_⟩)))
  have M0 : ∀ e, hm_mo h (hm_u h q e) (fun _ => False) := fun e b g hb _ => by rw [hm_n (hm_nn hb hq)]; exact hb
  refine cg_d_of (cg_al_of (M0 _ _ _ f1 id) (cg_d_of ?_))
  rw [if_pos (show nI acc.length < nI 18 from nI_lt (by omega) (by omega))]
  refine ⟨acc.length, 18, acc.length, f, _, rfl, M0 _ _ _ f1 id, hm_s, by omega, by omega, by omega, by omega, ?_⟩
  rw [hm_uu]
  refine hK _ q ⟨_, hm_s, fun i hi => ?_⟩ hq (M0 _)
  unfold va_cpy
  rw [if_pos (by omega), Nat.zero_add, Nat.sub_zero]
  exact f2 i hi
theorem lb_stop {w fu : Nat} {acc : List Int32} {x3 x4 : Option Nat} (k : lbR dA h w acc) (hl : acc.length ≤ 17) {c s : Nat} (hc : 1 ≤ c) (hs : 18 ≤ s) {K : Option Nat → hm_T → hz_T → Prop} (hK : ∀ (h1 : hm_T) (l1 : Nat), cp_lab dA h1 l1 acc → h l1 = none → hm_mo h h1 (fun _ => False) → K (some l1) h1 z) : w_Node_labelBetween_48 dA K (fu + 1) x3 x4 (some w) (nI acc.length) 0 c s h z := by
  unfold w_Node_labelBetween_48
  exact if_yes rfl (lb_end k hl hc hs hK)
/-- odd is written, and that is all -/
theorem lb_175 {w fu : Nat} {acc : List Int32} {x3 x4 : Option Nat} {v : Int32} (k : lbR dA h w acc) (hl : acc.length ≤ 16) {c s : Nat} (hc : 1 ≤ c) (hs : 18 ≤ s) {K : Option Nat → hm_T → hz_T → Prop} (hK : ∀ (h1 : hm_T) (l1 : Nat), cp_lab dA h1 l1 (acc ++ [v]) → h l1 = none → hm_mo h h1 (fun b => b = w) → K (some l1) h1 z) : w_Node_labelBetween_175 dA K (w_Node_labelBetween_48 dA K (fu + 1)) x3 x4 (some w) (nI acc.length) v c s h z := by
  obtain ⟨f0, c0, _⟩ := id k
  unfold w_Node_labelBetween_175 w_Node_labelBetween_275
  refine cg_d_of (k.put (by omega) (fun h1 k1 M1 => ?_))
  have e : nI acc.length + 1 = nI (acc ++ [v]).length := by rw [nI_1, List.length_append]; rfl
  rw [e]
  refine lb_stop k1 (by rw [List.length_append]; simp; omega) hc hs (fun h2 l2 L2 hl2 M2 => hK h2 l2 L2 ?_ (M1.trans (M2.weak (fun b w => w.elim))))
  cases e9 : h l2 with
  | none => rfl
  | some g =>
    exfalso
    by_cases q : l2 = w
    · obtain ⟨f1, c1, _⟩ := k1
      rw [q, c1] at hl2; cases hl2
    · rw [M1 _ _ e9 q] at hl2; cases hl2
theorem lb_fr {h h1 : hm_T} {w l2 : Nat} {acc : List Int32} (k1 : lbR dA h1 w acc) (M1 : hm_mo h h1 (fun b => b = w)) (hl2 : h1 l2 = none) : h l2 = none := by
  cases e9 : h l2 with
  | none => rfl
  | some g =>
    exfalso
    by_cases q : l2 = w
    · obtain ⟨f1, c1, _⟩ := k1
      rw [q, c1] at hl2; cases hl2
    · rw [M1 _ _ e9 q] at hl2; cases hl2
theorem lb_loop {w : Nat} {K : Option Nat → hm_T → hz_T → Prop} {c s : Nat} (hc : 1 ≤ c) (hs : 18 ≤ s) : ∀ (f fu : Nat) (acc : List Int32) (a b : Option (List Int32)) (x3 x4 : Option Nat) (h : hm_T), lbR dA h w acc → lbL dA h w x3 a → lbL dA h w x4 b → acc.length ≤ 17 → 18 ≤ f + acc.length → f + 1 < fu → (∀ (h1 : hm_T) (l1 : Nat), cp_lab dA h1 l1 (a_lb f acc a b) → h l1 = none → hm_mo h h1 (fun b => b = w) → K (some l1) h1 z) → w_Node_labelBetween_48 dA K fu x3 x4 (some w) (nI acc.length) 1 c s h z := by
  intro f
  induction f with
  | zero => intro fu acc a b x3 x4 h k La Lb hl hf; omega
  | succ f ih =>
    intro fu acc a b x3 x4 h k La Lb hl hf hfu hK
    obtain ⟨fu, rfl⟩ : ∃ g, fu = g + 1 + 1 := ⟨fu - 2, by omega⟩
    unfold a_lb at hK
    unfold w_Node_labelBetween_48
    refine if_no (by decide) ?_
    by_cases q : 16 < acc.length
    · rw [if_pos q] at hK
      exact if_yes (nI_lt (a := 16) q (by omega)) (lb_end k hl hc hs (fun h1 l1 L1 n1 M1 => hK h1 l1 L1 n1 (M1.weak (fun b w => w.elim))))
    rw [if_neg q] at hK
    refine if_no (nI_nlt (a := 16) (b := acc.length) (by omega) (by omega)) ?_
    have one : ∀ (v : Int32) (x3 x4 : Option Nat), (∀ (h1 : hm_T) (l1 : Nat), cp_lab dA h1 l1 (acc ++ [v]) → h l1 = none → hm_mo h h1 (fun b => b = w) → K (some l1) h1 z) → w_Node_labelBetween_175 dA K (w_Node_labelBetween_48 dA K (fu + 1)) x3 x4 (some w) (nI acc.length) v c s h z := fun v x3 x4 hk => lb_175 k (by omega) hc hs hk
    have step : ∀ (v : Int32) (a b : Option (List Int32)) (x3 x4 : Option Nat), lbL dA h w x3 a → lbL dA h w x4 b → (∀ (h1 : hm_T) (l1 : Nat), cp_lab dA h1 l1 (a_lb f (acc ++ [v]) a b) → h l1 = none → hm_mo h h1 (fun b => b = w) → K (some l1) h1 z) → cg_si dA h 0 w (nI acc.length) v (fun h58 => w_Node_labelBetween_275 dA K (w_Node_labelBetween_48 dA K (fu + 1)) x3 x4 (some w) (nI acc.length) 1 c s h58 z) := fun v a b x3 x4 La Lb hk => by
      refine k.put (by omega) (fun h1 k1 M1 => ?_)
      unfold w_Node_labelBetween_275
      have e : nI acc.length + 1 = nI (acc ++ [v]).length := by rw [nI_1, List.length_append]; rfl
      rw [e]
      exact ih (fu + 1) (acc ++ [v]) a b x3 x4 h1 k1 (La.mo M1) (Lb.mo M1) (by rw [List.length_append]; simp; omega) (by rw [List.length_append]; simp; omega) (by omega) (fun h2 l2 L2 n2 M2 => hk h2 l2 L2 (lb_fr k1 M1 n2) (M1.trans M2))
    cases x3 with
    | none =>
      cases a with
      | some _ => exact La.elim
      | none =>
        refine if_yes rfl ?_
        unfold w_Node_labelBetween_75 w_Node_labelBetween_76
        cases x4 with
        | none =>
          cases b with
          | some _ => exact Lb.elim
          | none =>
            refine if_yes rfl ?_
            unfold w_Node_labelBetween_95 w_Node_labelBetween_96 w_Node_labelBetween_111 w_Node_labelBetween_127 w_Node_labelBetween_156
            exact if_yes rfl (if_yes rfl (if_yes rfl (if_yes rfl (if_yes rfl (one _ _ _ hK)))))
        | some lb =>
          cases b with
          | none => exact Lb.elim
          | some r =>
            obtain ⟨⟨fr, R1, R2⟩, R3, R4⟩ := Lb
            refine if_no (by simp) (cg_d_of (cg_al_of R1 ?_))
            simp only [] at hK
            by_cases g : acc.length < r.length
            · rw [if_pos g] at hK
              refine if_no (nI_ge g (by omega)) ?_
              unfold w_Node_labelBetween_96 w_Node_labelBetween_111 w_Node_labelBetween_127
              refine if_yes rfl (if_no (by decide) (cg_d_of (cg_ai_of R1 g (by omega) (R2 _ g) (if_yes rfl (if_no (by decide) (lb_blw ?_))))))
              unfold w_Node_labelBetween_156
              exact if_yes rfl (one _ _ _ hK)
            · rw [if_neg g] at hK
              refine if_yes (nI_le (by omega) (by omega)) ?_
              unfold w_Node_labelBetween_95 w_Node_labelBetween_96 w_Node_labelBetween_111 w_Node_labelBetween_127 w_Node_labelBetween_156
              exact if_yes rfl (if_yes rfl (if_yes rfl (if_yes rfl (if_yes rfl (one _ _ _ hK)))))
    | some la =>
      cases a with
      | none => exact La.elim
      | some l =>
        have La0 := La
        obtain ⟨⟨fl, L1, L2⟩, L3, L4⟩ := La
        refine if_no (by simp) (cg_d_of (cg_al_of L1 ?_))
        by_cases g1 : acc.length < l.length
        · refine if_no (nI_ge g1 (by omega)) ?_
          unfold w_Node_labelBetween_76
          cases x4 with
          | none =>
            cases b with
            | some _ => exact Lb.elim
            | none =>
              simp only [] at hK
              rw [if_pos g1] at hK
              refine if_yes rfl ?_
              unfold w_Node_labelBetween_95 w_Node_labelBetween_96 w_Node_labelBetween_111 w_Node_labelBetween_127
              refine if_no (by decide) (cg_d_of (cg_ai_of L1 g1 (by omega) (L2 _ g1) (if_yes rfl (if_no (by decide) (lb_abv ?_)))))
              unfold w_Node_labelBetween_156
              exact if_no (by decide) (if_yes rfl (one _ _ _ hK))
          | some lb =>
            cases b with
            | none => exact Lb.elim
            | some r =>
              have Lb0 := Lb
              obtain ⟨⟨fr, R1, R2⟩, R3, R4⟩ := Lb
              simp only [] at hK
              rw [if_pos g1] at hK
              refine if_no (by simp) (cg_d_of (cg_al_of R1 ?_))
              by_cases g2 : acc.length < r.length
              · rw [if_pos g2] at hK
                refine if_no (nI_ge g2 (by omega)) ?_
                unfold w_Node_labelBetween_96 w_Node_labelBetween_111 w_Node_labelBetween_127
                refine if_no (by decide) (cg_d_of (cg_ai_of L1 g1 (by omega) (L2 _ g1) (if_no (by decide) (cg_d_of (cg_ai_of R1 g2 (by omega) (R2 _ g2) (if_no (by decide) (lb_abv ?_)))))))
                unfold w_Node_labelBetween_156
                refine if_no (by decide) (if_no (by decide) ?_)
                generalize l.getD acc.length 0 = p at *
                generalize r.getD acc.length 0 = qq at *
                by_cases g3 : a_abv p < qq
                · rw [if_pos g3] at hK
                  exact if_no (Int32.not_le.mpr g3) (one _ _ _ hK)
                · rw [if_neg g3] at hK
                  refine if_yes (Int32.not_lt.mp g3) (lb_odd ?_)
                  have d228 : ¬ (a_odd p = true ∧ a_odd qq = true) → w_Node_labelBetween_228 dA K (w_Node_labelBetween_48 dA K (fu + 1)) (some la) (some lb) (some w) (nI acc.length) 1 p qq c s h z := fun g4 => by
                    rw [if_neg g4] at hK
                    unfold w_Node_labelBetween_228
                    by_cases g5 : p = qq
                    · rw [if_pos g5] at hK
                      exact if_yes g5 (cg_d_of (step _ _ _ _ _ La0 Lb0 hK))
                    · rw [if_neg g5] at hK
                      refine if_no g5 (lb_odd ?_)
                      by_cases g6 : a_odd p = true
                      · rw [if_neg (by rw [g6]; decide)] at hK
                        rw [if_pos g6]
                        exact if_no (by decide) (cg_d_of (step _ none _ none _ trivial Lb0 hK))
                      · rw [if_pos (by simpa using g6)] at hK
                        rw [if_neg g6]
                        exact if_yes rfl (cg_d_of (step _ _ none _ none La0 trivial hK))
                  by_cases g6 : a_odd p = true
                  · rw [if_pos g6]
                    refine if_no (by decide) (lb_odd ?_)
                    by_cases g7 : a_odd qq = true
                    · rw [if_pos ⟨g6, g7⟩] at hK
                      rw [if_pos g7]
                      refine if_no (by decide) (cg_d_of (k.put (by omega) (fun h1 k1 M1 => cg_d_of ?_)))
                      have e : nI acc.length + 1 = nI (acc ++ [p + 1]).length := by rw [nI_1, List.length_append]; rfl
                      rw [e]
                      refine k1.put (by rw [List.length_append]; simp; omega) (fun h2 k2 M2 => ?_)
                      unfold w_Node_labelBetween_275
                      have e2 : nI (acc ++ [p + 1]).length + 1 = nI (acc ++ [p + 1] ++ [1]).length := by rw [nI_1, List.length_append (as := acc ++ [p + 1])]; rfl
                      rw [e2]
                      refine lb_stop k2 (by rw [List.length_append, List.length_append]; simp; omega) hc hs (fun h3 l3 L3 n3 M3 => hK h3 l3 (by rw [List.append_assoc] at L3; exact L3) (lb_fr k1 M1 (lb_fr k2 M2 n3)) ((M1.trans M2).trans (M3.weak (fun b w => w.elim))))
                    · rw [if_neg g7]
                      exact if_yes rfl (d228 (fun w => g7 w.2))
                  · rw [if_neg g6]
                    exact if_yes rfl (d228 (fun w => g6 w.1))
              · rw [if_neg g2] at hK
                refine if_yes (nI_le (by omega) (by omega)) ?_
                unfold w_Node_labelBetween_95 w_Node_labelBetween_96 w_Node_labelBetween_111 w_Node_labelBetween_127
                refine if_no (by decide) (cg_d_of (cg_ai_of L1 g1 (by omega) (L2 _ g1) (if_yes rfl (if_no (by decide) (lb_abv ?_)))))
                unfold w_Node_labelBetween_156
                exact if_no (by decide) (if_yes rfl (one _ _ _ hK))
        · refine if_yes (nI_le (by omega) (by omega)) ?_
          unfold w_Node_labelBetween_75 w_Node_labelBetween_76
          cases x4 with
          | none =>
            cases b with
            | some _ => exact Lb.elim
            | none =>
              simp only [] at hK
              rw [if_neg g1] at hK
              refine if_yes rfl ?_
              unfold w_Node_labelBetween_95 w_Node_labelBetween_96 w_Node_labelBetween_111 w_Node_labelBetween_127 w_Node_labelBetween_156
              exact if_yes rfl (if_yes rfl (if_yes rfl (if_yes rfl (if_yes rfl (one _ _ _ hK)))))
          | some lb =>
            cases b with
            | none => exact Lb.elim
            | some r =>
              obtain ⟨⟨fr, R1, R2⟩, R3, R4⟩ := Lb
              simp only [] at hK
              rw [if_neg g1] at hK
              refine if_no (by simp) (cg_d_of (cg_al_of R1 ?_))
              by_cases g : acc.length < r.length
              · rw [if_pos g] at hK
                refine if_no (nI_ge g (by omega)) ?_
                unfold w_Node_labelBetween_96 w_Node_labelBetween_111 w_Node_labelBetween_127
                refine if_yes rfl (if_no (by decide) (cg_d_of (cg_ai_of R1 g (by omega) (R2 _ g) (if_yes rfl (if_no (by decide) (lb_blw ?_))))))
                unfold w_Node_labelBetween_156
                exact if_yes rfl (one _ _ _ hK)
              · rw [if_neg g] at hK
                refine if_yes (nI_le (by omega) (by omega)) ?_
                unfold w_Node_labelBetween_95 w_Node_labelBetween_96 w_Node_labelBetween_111 w_Node_labelBetween_127 w_Node_labelBetween_156
                exact if_yes rfl (if_yes rfl (if_yes rfl (if_yes rfl (if_yes rfl (one _ _ _ hK)))))
/-- a neighbour, and its label -/
def lbN (dA : Nat → ClassId) (h : hm_T) (x : Option Nat) (a : Option (List Int32)) : Prop := match x, a with
  | none, none => True
  | some o, some lab => ∃ (fs : List Value) (l : Nat), h o = some (.inr (8, fs)) ∧ fs[3]? = some (.ref l) ∧ cp_lab dA h l lab ∧ lab.length ≤ 16
  | _, _ => False
theorem lb_25 {x lp : Nat} {fs : List Value} {labP : List Int32} {a b : Option (List Int32)} {x3 x4 : Option Nat} (c1 : h x = some (.inr (8, fs))) (c2 : fs[3]? = some (.ref lp)) (hl : cp_lab dA h lp labP) (h16 : labP.length ≤ 16) (La : ∀ w, h w = none → lbL dA h w x3 a) (Lb : ∀ w, h w = none → lbL dA h w x4 b) {c s : Nat} (hc : 2 ≤ c) (hs : 36 ≤ s) {K : Option Nat → hm_T → hz_T → Prop} (hK : ∀ (h1 : hm_T) (l1 : Nat), cp_lab dA h1 l1 (a_lb 20 labP a b) → h l1 = none → hm_mo h h1 (fun _ => False) → K (some l1) h1 z) : w_Node_labelBetween_25 dA K (some x) x3 x4 c s h z := by
  obtain ⟨f, f1, f2⟩ := hl
  unfold w_Node_labelBetween_25 w_Arrays_copyOfI
  refine cg_d_of (cg_R_ref c1 c2 (cg_rm_of (c1 := 1) (s1 := 18) (by omega) (by omega) (cg_d_of (cg_al_of f1 (if_no (fun q => by have := (nI_eq (a := 18) (by omega) (by omega)).mp q; omega) ⟨18, 0, 0, rfl, by omega, rfl, rfl, fun q hq => ?_⟩)))))
  have M0 : ∀ e, hm_mo h (hm_u h q e) (fun _ => False) := fun e b g hb _ => by rw [hm_n (hm_nn hb hq)]; exact hb
  refine cg_d_of (cg_al_of (M0 _ _ _ f1 id) (cg_d_of ?_))
  rw [if_neg (show ¬ (18 : Int32) < nI labP.length from nI_nlt (a := 18) (b := labP.length) (by omega) (by omega))]
  refine ⟨labP.length, labP.length, 18, f, _, rfl, M0 _ _ _ f1 id, hm_s, by omega, by omega, by omega, by omega, ?_⟩
  rw [hm_uu]
  refine cg_d_of (cg_R_ref (M0 _ _ _ c1 id) c2 (cg_d_of (cg_al_of (M0 _ _ _ f1 id) ?_)))
  have k : lbR dA (hm_u h q (.inl (dA 0, 18, .inl (va_cpy f (fun _ => 0) 0 0 labP.length)))) q labP := ⟨_, hm_s, fun i hi => by
    unfold va_cpy
    rw [if_pos (by omega), Nat.zero_add, Nat.sub_zero]
    exact f2 i hi⟩
  refine lb_loop (by omega) (by omega) 20 mF labP a b x3 x4 _ k ((La q hq).mo ((M0 _).weak (fun b w => w.elim))) ((Lb q hq).mo ((M0 _).weak (fun b w => w.elim))) (by omega) (by omega) (by unfold mF; omega) (fun h1 l1 L1 n1 M1 => hK h1 l1 L1 ?_ (fun b e hb _ => ?_))
  · cases e9 : h l1 with
    | none => rfl
    | some g => rw [M0 _ _ _ e9 id] at n1; cases n1
  · exact M1 _ _ (M0 _ _ _ hb id) (hm_nn hb hq)
theorem lb_between {x lp : Nat} {fs : List Value} {labP : List Int32} {a b : Option (List Int32)} {y1 y2 : Option Nat} (c1 : h x = some (.inr (8, fs))) (c2 : fs[3]? = some (.ref lp)) (hl : cp_lab dA h lp labP) (h16 : labP.length ≤ 16) (La : lbN dA h y1 a) (Lb : lbN dA h y2 b) {c s : Nat} (hc : 2 ≤ c) (hs : 36 ≤ s) {K : Option Nat → hm_T → hz_T → Prop} (hK : ∀ (h1 : hm_T) (l1 : Nat), cp_lab dA h1 l1 (a_lb 20 labP a b) → h l1 = none → hm_mo h h1 (fun _ => False) → K (some l1) h1 z) : w_Node_labelBetween dA (some x) y1 y2 c s K h z := by
  have conv : ∀ {l : Nat} {lab : List Int32}, cp_lab dA h l lab → lab.length ≤ 16 → ∀ w, h w = none → lbL dA h w (some l) (some lab) := fun hL h6 w hw => ⟨hL, (fun e => by obtain ⟨f, k1, _⟩ := hL; rw [e, hw] at k1; cases k1), h6⟩
  have go : ∀ x3 : Option Nat, (∀ w, h w = none → lbL dA h w x3 a) → w_Node_labelBetween_12 dA K (some x) y2 x3 c s h z := fun x3 L3 => by
    unfold w_Node_labelBetween_12
    cases y2 with
    | none =>
      cases b with
      | some _ => exact Lb.elim
      | none => exact if_yes rfl (lb_25 (b := none) (x4 := none) c1 c2 hl h16 L3 (fun w _ => trivial) hc hs hK)
    | some o =>
      cases b with
      | none => exact Lb.elim
      | some lab =>
        obtain ⟨fs2, l2, k1, k2, k3, k4⟩ := Lb
        exact if_no (by simp) (cg_d_of (cg_R_ref k1 k2 (lb_25 c1 c2 hl h16 L3 (conv k3 k4) hc hs hK)))
  unfold w_Node_labelBetween
  cases y1 with
  | none =>
    cases a with
    | some _ => exact La.elim
    | none => exact if_yes rfl (go none (fun w _ => trivial))
  | some o =>
    cases a with
    | none => exact La.elim
    | some lab =>
      obtain ⟨fs2, l2, k1, k2, k3, k4⟩ := La
      exact if_no (by simp) (cg_d_of (cg_R_ref k1 k2 (go (some l2) (conv k3 k4))))
end PQ9
