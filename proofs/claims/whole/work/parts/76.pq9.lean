-- the label between two
def a_odd (x : Int32) : Bool := decide (x &&& 1 = 1)
def a_abv (x : Int32) : Int32 := if a_odd x then x + 2 else x + 1
def a_blw (x : Int32) : Int32 := if a_odd x then x - 2 else x - 1
/-- acc is what stands already; a and b are the neighbours' labels -/
def a_lb : Nat → List Int32 → Option (List Int32) → Option (List Int32) → List Int32
  | 0, acc, _, _ => acc
  | f + 1, acc, a, b => if 16 < acc.length then acc else match a, b with
    | none, none => acc ++ [1]
    | some l, none => acc ++ [if acc.length < l.length then a_abv (l.getD acc.length 0) else 1]
    | none, some r => acc ++ [if acc.length < r.length then a_blw (r.getD acc.length 0) else 1]
    | some l, some r => if acc.length < l.length then (if acc.length < r.length then (if a_abv (l.getD acc.length 0) < r.getD acc.length 0 then acc ++ [a_abv (l.getD acc.length 0)] else if a_odd (l.getD acc.length 0) = true ∧ a_odd (r.getD acc.length 0) = true then acc ++ [l.getD acc.length 0 + 1, 1] else if l.getD acc.length 0 = r.getD acc.length 0 then a_lb f (acc ++ [l.getD acc.length 0]) a b else if a_odd (l.getD acc.length 0) = false then a_lb f (acc ++ [l.getD acc.length 0]) a none else a_lb f (acc ++ [r.getD acc.length 0]) none b) else acc ++ [a_abv (l.getD acc.length 0)]) else acc ++ [if acc.length < r.length then a_blw (r.getD acc.length 0) else 1]
theorem a_lb_len : ∀ (f : Nat) (acc : List Int32) (a b : Option (List Int32)), acc.length ≤ 17 → (∀ l, a = some l → l.length ≤ 16) → (∀ l, b = some l → l.length ≤ 16) → acc.length ≤ (a_lb f acc a b).length ∧ (a_lb f acc a b).length ≤ 17 := by
  intro f
  induction f with
  | zero => intro acc a b h _ _; exact ⟨Nat.le_refl _, h⟩
  | succ f ih =>
    intro acc a b h ha hb
    unfold a_lb
    by_cases q : 16 < acc.length
    · rw [if_pos q]; exact ⟨Nat.le_refl _, h⟩
    rw [if_neg q]
    have one : ∀ v : Int32, acc.length ≤ (acc ++ [v]).length ∧ (acc ++ [v]).length ≤ 17 := fun v => by rw [List.length_append]; simp; omega
    have step : ∀ (v : Int32) (a b : Option (List Int32)), (∀ l, a = some l → l.length ≤ 16) → (∀ l, b = some l → l.length ≤ 16) → acc.length ≤ (a_lb f (acc ++ [v]) a b).length ∧ (a_lb f (acc ++ [v]) a b).length ≤ 17 := fun v a b ha hb => by
      have := ih (acc ++ [v]) a b (one v).2 ha hb
      have := (one v).1
      omega
    cases a with
    | none =>
      cases b with
      | none => exact one _
      | some r => exact one _
    | some l =>
      cases b with
      | none => exact one _
      | some r =>
        simp only []
        have := ha l rfl
        split
        · split
          · split
            · exact one _
            · split
              · rw [List.length_append]; simp; omega
              · split
                · exact step _ _ _ ha hb
                · split
                  · exact step _ _ _ ha (fun l w => by cases w)
                  · exact step _ _ _ (fun l w => by cases w) hb
          · exact one _
        · exact one _
section PQ9
variable {dA : Nat → ClassId} {h : hm_T} {z : hz_T}
theorem lb_odd {x : Int32} {K : Int32 → hm_T → hz_T → Prop} (hK : K (if a_odd x then 1 else 0) h z) : w_Node_isOdd dA x K h z := by
  unfold w_Node_isOdd
  unfold a_odd at hK
  by_cases q : x &&& 1 = 1
  · rw [if_pos (decide_eq_true q)] at hK; exact if_yes q hK
  · rw [if_neg (by simp [q])] at hK; exact if_no q hK
theorem lb_abv {x : Int32} {K : Int32 → hm_T → hz_T → Prop} (hK : K (a_abv x) h z) : w_Node_oddAbove dA x K h z := by
  unfold w_Node_oddAbove
  unfold a_abv at hK
  refine lb_odd ?_
  by_cases q : a_odd x = true
  · rw [if_pos q] at hK ⊢; exact if_no (by decide) hK
  · rw [if_neg q] at hK ⊢; exact if_yes rfl hK
theorem lb_blw {x : Int32} {K : Int32 → hm_T → hz_T → Prop} (hK : K (a_blw x) h z) : w_Node_oddBelow dA x K h z := by
  unfold w_Node_oddBelow
  unfold a_blw at hK
  refine lb_odd ?_
  by_cases q : a_odd x = true
  · rw [if_pos q] at hK ⊢; exact if_no (by decide) hK
  · rw [if_neg q] at hK ⊢; exact if_yes rfl hK
/-- the row holds what stands already -/
def lbR (dA : Nat → ClassId) (h : hm_T) (w : Nat) (acc : List Int32) : Prop := ∃ f : Nat → Int32, h w = some (.inl (dA 0, 18, .inl f)) ∧ ∀ j, j < acc.length → f j = acc.getD j 0
def lbL (dA : Nat → ClassId) (h : hm_T) (w : Nat) (x : Option Nat) (a : Option (List Int32)) : Prop := match x, a with
  | none, none => True
  | some l, some lab => cp_lab dA h l lab ∧ l ≠ w ∧ lab.length ≤ 16
  | _, _ => False
theorem lbL.mo {h1 : hm_T} {w : Nat} {x : Option Nat} {a : Option (List Int32)} (k : lbL dA h w x a) (M : hm_mo h h1 (fun b => b = w)) : lbL dA h1 w x a := by
  unfold lbL at *
  cases x with
  | none =>
    cases a with
    | none => exact k
    | some lab => exact k
  | some l =>
    cases a with
    | none => exact k
    | some lab => exact ⟨k.1.mo M k.2.1, k.2⟩
theorem lbR.put {w : Nat} {acc : List Int32} {v : Int32} (k : lbR dA h w acc) (hl : acc.length < 18) {K : hm_T → Prop} (hK : ∀ h1, lbR dA h1 w (acc ++ [v]) → hm_mo h h1 (fun b => b = w) → K h1) : cg_si dA h 0 w (nI acc.length) v K := by
  obtain ⟨f, c, hf⟩ := k
  refine cg_si_of c hl (by omega) (hK _ ⟨_, hm_s, fun j hj => ?_⟩ (hm_mo.u rfl))
  rw [List.length_append] at hj
  unfold upd
  by_cases q : j = acc.length
  · rw [if_pos q, q, List.getD_eq_getElem?_getD, List.getElem?_append_right (Nat.le_refl _), Nat.sub_self]; rfl
  · have hj2 : j < acc.length := by simp at hj; omega
    rw [if_neg q, List.getD_eq_getElem?_getD, List.getElem?_append_left hj2, ← List.getD_eq_getElem?_getD]
    exact hf j hj2
theorem lb_end {w : Nat} {acc : List Int32} (k : lbR dA h w acc) (hl : acc.length ≤ 17) {c s : Nat} (hc : 1 ≤ c) (hs : 18 ≤ s) {K : Option Nat → hm_T → hz_T → Prop} (hK : ∀ (h1 : hm_T) (l1 : Nat), cp_lab dA h1 l1 acc → h l1 = none → hm_mo h h1 (fun _ => False) → K (some l1) h1 z) : w_Node_labelBetween_281 dA K (some w) (nI acc.length) c s h z := by
  obtain ⟨f, f1, f2⟩ := k
  unfold w_Node_labelBetween_281 w_Arrays_copyOfI
  refine cg_rm_of hc hs (cg_d_of (cg_al_of f1 (if_no (fun q => by have := (nI_eq (by omega) (by omega)).mp q; omega) ⟨acc.length, 0, 18 - acc.length, rfl, by omega, rfl, by omega, fun q hq => ?_⟩)))
  have M0 : ∀ e, hm_mo h (hm_u h q e) (fun _ => False) := fun e b g hb _ => by rw [hm_n (hm_nn hb hq)]; exact hb
  refine cg_d_of (cg_al_of (M0 _ _ _ f1 id) (cg_d_of ?_))
  rw [if_pos (show nI acc.length < nI 18 from nI_lt (by omega) (by omega))]
  refine ⟨acc.length, 18, acc.length, f, _, rfl, M0 _ _ _ f1 id, hm_s, by omega, by omega, by omega, by omega, ?_⟩
  rw [hm_uu]
  refine hK _ q ⟨_, hm_s, fun i hi => ?_⟩ hq (M0 _)
  unfold va_cpy
  rw [if_pos (by omega), Nat.zero_add, Nat.sub_zero]
  exact f2 i hi
theorem lb_stop {w fu : Nat} {acc : List Int32} {x3 x4 : Option Nat} (k : lbR dA h w acc) (hl : acc.length ≤ 17) {c s : Nat} (hc : 1 ≤ c) (hs : 18 ≤ s) {K : Option Nat → hm_T → hz_T → Prop} (hK : ∀ (h1 : hm_T) (l1 : Nat), cp_lab dA h1 l1 acc → h l1 = none → hm_mo h h1 (fun _ => False) → K (some l1) h1 z) : w_Node_labelBetween_48 dA K (fu + 1) x3 x4 (some w) (nI acc.length) 0 c s h z := by
  unfold w_Node_labelBetween_48
  exact if_yes rfl (lb_end k hl hc hs hK)
/-- odd is written, and that is all -/
theorem lb_175 {w fu : Nat} {acc : List Int32} {x3 x4 : Option Nat} {v : Int32} (k : lbR dA h w acc) (hl : acc.length ≤ 16) {c s : Nat} (hc : 1 ≤ c) (hs : 18 ≤ s) {K : Option Nat → hm_T → hz_T → Prop} (hK : ∀ (h1 : hm_T) (l1 : Nat), cp_lab dA h1 l1 (acc ++ [v]) → h l1 = none → hm_mo h h1 (fun b => b = w) → K (some l1) h1 z) : w_Node_labelBetween_175 dA K (w_Node_labelBetween_48 dA K (fu + 1)) x3 x4 (some w) (nI acc.length) v c s h z := by
  obtain ⟨f0, c0, _⟩ := id k
  unfold w_Node_labelBetween_175 w_Node_labelBetween_275
  refine cg_d_of (k.put (by omega) (fun h1 k1 M1 => ?_))
  have e : nI acc.length + 1 = nI (acc ++ [v]).length := by rw [nI_1, List.length_append]; rfl
  rw [e]
  refine lb_stop k1 (by rw [List.length_append]; simp; omega) hc hs (fun h2 l2 L2 hl2 M2 => hK h2 l2 L2 ?_ (M1.trans (M2.weak (fun b w => w.elim))))
  cases e9 : h l2 with
  | none => rfl
  | some g =>
    exfalso
    by_cases q : l2 = w
    · obtain ⟨f1, c1, _⟩ := k1
      rw [q, c1] at hl2; cases hl2
    · rw [M1 _ _ e9 q] at hl2; cases hl2
theorem lb_fr {h h1 : hm_T} {w l2 : Nat} {acc : List Int32} (k1 : lbR dA h1 w acc) (M1 : hm_mo h h1 (fun b => b = w)) (hl2 : h1 l2 = none) : h l2 = none := by
  cases e9 : h l2 with
  | none => rfl
  | some g =>
    exfalso
    by_cases q : l2 = w
    · obtain ⟨f1, c1, _⟩ := k1
      rw [q, c1] at hl2; cases hl2
    · rw [M1 _ _ e9 q] at hl2; cases hl2
theorem lb_loop {w : Nat} {K : Option Nat → hm_T → hz_T → Prop} {c s : Nat} (hc : 1 ≤ c) (hs : 18 ≤ s) : ∀ (f fu : Nat) (acc : List Int32) (a b : Option (List Int32)) (x3 x4 : Option Nat) (h : hm_T), lbR dA h w acc → lbL dA h w x3 a → lbL dA h w x4 b → acc.length ≤ 17 → 18 ≤ f + acc.length → f + 1 < fu → (∀ (h1 : hm_T) (l1 : Nat), cp_lab dA h1 l1 (a_lb f acc a b) → h l1 = none → hm_mo h h1 (fun b => b = w) → K (some l1) h1 z) → w_Node_labelBetween_48 dA K fu x3 x4 (some w) (nI acc.length) 1 c s h z := by
  intro f
  induction f with
  | zero => intro fu acc a b x3 x4 h k La Lb hl hf; omega
  | succ f ih =>
    intro fu acc a b x3 x4 h k La Lb hl hf hfu hK
    obtain ⟨fu, rfl⟩ : ∃ g, fu = g + 1 + 1 := ⟨fu - 2, by omega⟩
    unfold a_lb at hK
    unfold w_Node_labelBetween_48
    refine if_no (by decide) ?_
    by_cases q : 16 < acc.length
    · rw [if_pos q] at hK
      exact if_yes (nI_lt (a := 16) q (by omega)) (lb_end k hl hc hs (fun h1 l1 L1 n1 M1 => hK h1 l1 L1 n1 (M1.weak (fun b w => w.elim))))
    rw [if_neg q] at hK
    refine if_no (nI_nlt (a := 16) (b := acc.length) (by omega) (by omega)) ?_
    have one : ∀ (v : Int32) (x3 x4 : Option Nat), (∀ (h1 : hm_T) (l1 : Nat), cp_lab dA h1 l1 (acc ++ [v]) → h l1 = none → hm_mo h h1 (fun b => b = w) → K (some l1) h1 z) → w_Node_labelBetween_175 dA K (w_Node_labelBetween_48 dA K (fu + 1)) x3 x4 (some w) (nI acc.length) v c s h z := fun v x3 x4 hk => lb_175 k (by omega) hc hs hk
    have step : ∀ (v : Int32) (a b : Option (List Int32)) (x3 x4 : Option Nat), lbL dA h w x3 a → lbL dA h w x4 b → (∀ (h1 : hm_T) (l1 : Nat), cp_lab dA h1 l1 (a_lb f (acc ++ [v]) a b) → h l1 = none → hm_mo h h1 (fun b => b = w) → K (some l1) h1 z) → cg_si dA h 0 w (nI acc.length) v (fun h58 => w_Node_labelBetween_275 dA K (w_Node_labelBetween_48 dA K (fu + 1)) x3 x4 (some w) (nI acc.length) 1 c s h58 z) := fun v a b x3 x4 La Lb hk => by
      refine k.put (by omega) (fun h1 k1 M1 => ?_)
      unfold w_Node_labelBetween_275
      have e : nI acc.length + 1 = nI (acc ++ [v]).length := by rw [nI_1, List.length_append]; rfl
      rw [e]
      exact ih (fu + 1) (acc ++ [v]) a b x3 x4 h1 k1 (La.mo M1) (Lb.mo M1) (by rw [List.length_append]; simp; omega) (by rw [List.length_append]; simp; omega) (by omega) (fun h2 l2 L2 n2 M2 => hk h2 l2 L2 (lb_fr k1 M1 n2) (M1.trans M2))
    cases x3 with
    | none =>
      cases a with
      | some _ => exact La.elim
      | none =>
        refine if_yes rfl ?_
        unfold w_Node_labelBetween_75 w_Node_labelBetween_76
        cases x4 with
        | none =>
          cases b with
          | some _ => exact Lb.elim
          | none =>
            refine if_yes rfl ?_
            unfold w_Node_labelBetween_95 w_Node_labelBetween_96 w_Node_labelBetween_111 w_Node_labelBetween_127 w_Node_labelBetween_156
            exact if_yes rfl (if_yes rfl (if_yes rfl (if_yes rfl (if_yes rfl (one _ _ _ hK)))))
        | some lb =>
          cases b with
          | none => exact Lb.elim
          | some r =>
            obtain ⟨⟨fr, R1, R2⟩, R3, R4⟩ := Lb
            refine if_no (by simp) (cg_d_of (cg_al_of R1 ?_))
            simp only [] at hK
            by_cases g : acc.length < r.length
            · rw [if_pos g] at hK
              refine if_no (nI_ge g (by omega)) ?_
              unfold w_Node_labelBetween_96 w_Node_labelBetween_111 w_Node_labelBetween_127
              refine if_yes rfl (if_no (by decide) (cg_d_of (cg_ai_of R1 g (by omega) (R2 _ g) (if_yes rfl (if_no (by decide) (lb_blw ?_))))))
              unfold w_Node_labelBetween_156
              exact if_yes rfl (one _ _ _ hK)
            · rw [if_neg g] at hK
              refine if_yes (nI_le (by omega) (by omega)) ?_
              unfold w_Node_labelBetween_95 w_Node_labelBetween_96 w_Node_labelBetween_111 w_Node_labelBetween_127 w_Node_labelBetween_156
              exact if_yes rfl (if_yes rfl (if_yes rfl (if_yes rfl (if_yes rfl (one _ _ _ hK)))))
    | some la =>
      cases a with
      | none => exact La.elim
      | some l =>
        have La0 := La
        obtain ⟨⟨fl, L1, L2⟩, L3, L4⟩ := La
        refine if_no (by simp) (cg_d_of (cg_al_of L1 ?_))
        by_cases g1 : acc.length < l.length
        · refine if_no (nI_ge g1 (by omega)) ?_
          unfold w_Node_labelBetween_76
          cases x4 with
          | none =>
            cases b with
            | some _ => exact Lb.elim
            | none =>
              simp only [] at hK
              rw [if_pos g1] at hK
              refine if_yes rfl ?_
              unfold w_Node_labelBetween_95 w_Node_labelBetween_96 w_Node_labelBetween_111 w_Node_labelBetween_127
              refine if_no (by decide) (cg_d_of (cg_ai_of L1 g1 (by omega) (L2 _ g1) (if_yes rfl (if_no (by decide) (lb_abv ?_)))))
              unfold w_Node_labelBetween_156
              exact if_no (by decide) (if_yes rfl (one _ _ _ hK))
          | some lb =>
            cases b with
            | none => exact Lb.elim
            | some r =>
              have Lb0 := Lb
              obtain ⟨⟨fr, R1, R2⟩, R3, R4⟩ := Lb
              simp only [] at hK
              rw [if_pos g1] at hK
              refine if_no (by simp) (cg_d_of (cg_al_of R1 ?_))
              by_cases g2 : acc.length < r.length
              · rw [if_pos g2] at hK
                refine if_no (nI_ge g2 (by omega)) ?_
                unfold w_Node_labelBetween_96 w_Node_labelBetween_111 w_Node_labelBetween_127
                refine if_no (by decide) (cg_d_of (cg_ai_of L1 g1 (by omega) (L2 _ g1) (if_no (by decide) (cg_d_of (cg_ai_of R1 g2 (by omega) (R2 _ g2) (if_no (by decide) (lb_abv ?_)))))))
                unfold w_Node_labelBetween_156
                refine if_no (by decide) (if_no (by decide) ?_)
                generalize l.getD acc.length 0 = p at *
                generalize r.getD acc.length 0 = qq at *
                by_cases g3 : a_abv p < qq
                · rw [if_pos g3] at hK
                  exact if_no (Int32.not_le.mpr g3) (one _ _ _ hK)
                · rw [if_neg g3] at hK
                  refine if_yes (Int32.not_lt.mp g3) (lb_odd ?_)
                  have d228 : ¬ (a_odd p = true ∧ a_odd qq = true) → w_Node_labelBetween_228 dA K (w_Node_labelBetween_48 dA K (fu + 1)) (some la) (some lb) (some w) (nI acc.length) 1 p qq c s h z := fun g4 => by
                    rw [if_neg g4] at hK
                    unfold w_Node_labelBetween_228
                    by_cases g5 : p = qq
                    · rw [if_pos g5] at hK
                      exact if_yes g5 (cg_d_of (step _ _ _ _ _ La0 Lb0 hK))
                    · rw [if_neg g5] at hK
                      refine if_no g5 (lb_odd ?_)
                      by_cases g6 : a_odd p = true
                      · rw [if_neg (by rw [g6]; decide)] at hK
                        rw [if_pos g6]
                        exact if_no (by decide) (cg_d_of (step _ none _ none _ trivial Lb0 hK))
                      · rw [if_pos (by simpa using g6)] at hK
                        rw [if_neg g6]
                        exact if_yes rfl (cg_d_of (step _ _ none _ none La0 trivial hK))
                  by_cases g6 : a_odd p = true
                  · rw [if_pos g6]
                    refine if_no (by decide) (lb_odd ?_)
                    by_cases g7 : a_odd qq = true
                    · rw [if_pos ⟨g6, g7⟩] at hK
                      rw [if_pos g7]
                      refine if_no (by decide) (cg_d_of (k.put (by omega) (fun h1 k1 M1 => cg_d_of ?_)))
                      have e : nI acc.length + 1 = nI (acc ++ [p + 1]).length := by rw [nI_1, List.length_append]; rfl
                      rw [e]
                      refine k1.put (by rw [List.length_append]; simp; omega) (fun h2 k2 M2 => ?_)
                      unfold w_Node_labelBetween_275
                      have e2 : nI (acc ++ [p + 1]).length + 1 = nI (acc ++ [p + 1] ++ [1]).length := by rw [nI_1, List.length_append (as := acc ++ [p + 1])]; rfl
                      rw [e2]
                      refine lb_stop k2 (by rw [List.length_append, List.length_append]; simp; omega) hc hs (fun h3 l3 L3 n3 M3 => hK h3 l3 (by rw [List.append_assoc] at L3; exact L3) (lb_fr k1 M1 (lb_fr k2 M2 n3)) ((M1.trans M2).trans (M3.weak (fun b w => w.elim))))
                    · rw [if_neg g7]
                      exact if_yes rfl (d228 (fun w => g7 w.2))
                  · rw [if_neg g6]
                    exact if_yes rfl (d228 (fun w => g6 w.1))
              · rw [if_neg g2] at hK
                refine if_yes (nI_le (by omega) (by omega)) ?_
                unfold w_Node_labelBetween_95 w_Node_labelBetween_96 w_Node_labelBetween_111 w_Node_labelBetween_127
                refine if_no (by decide) (cg_d_of (cg_ai_of L1 g1 (by omega) (L2 _ g1) (if_yes rfl (if_no (by decide) (lb_abv ?_)))))
                unfold w_Node_labelBetween_156
                exact if_no (by decide) (if_yes rfl (one _ _ _ hK))
        · refine if_yes (nI_le (by omega) (by omega)) ?_
          unfold w_Node_labelBetween_75 w_Node_labelBetween_76
          cases x4 with
          | none =>
            cases b with
            | some _ => exact Lb.elim
            | none =>
              simp only [] at hK
              rw [if_neg g1] at hK
              refine if_yes rfl ?_
              unfold w_Node_labelBetween_95 w_Node_labelBetween_96 w_Node_labelBetween_111 w_Node_labelBetween_127 w_Node_labelBetween_156
              exact if_yes rfl (if_yes rfl (if_yes rfl (if_yes rfl (if_yes rfl (one _ _ _ hK)))))
          | some lb =>
            cases b with
            | none => exact Lb.elim
            | some r =>
              obtain ⟨⟨fr, R1, R2⟩, R3, R4⟩ := Lb
              simp only [] at hK
              rw [if_neg g1] at hK
              refine if_no (by simp) (cg_d_of (cg_al_of R1 ?_))
              by_cases g : acc.length < r.length
              · rw [if_pos g] at hK
                refine if_no (nI_ge g (by omega)) ?_
                unfold w_Node_labelBetween_96 w_Node_labelBetween_111 w_Node_labelBetween_127
                refine if_yes rfl (if_no (by decide) (cg_d_of (cg_ai_of R1 g (by omega) (R2 _ g) (if_yes rfl (if_no (by decide) (lb_blw ?_))))))
                unfold w_Node_labelBetween_156
                exact if_yes rfl (one _ _ _ hK)
              · rw [if_neg g] at hK
                refine if_yes (nI_le (by omega) (by omega)) ?_
                unfold w_Node_labelBetween_95 w_Node_labelBetween_96 w_Node_labelBetween_111 w_Node_labelBetween_127 w_Node_labelBetween_156
                exact if_yes rfl (if_yes rfl (if_yes rfl (if_yes rfl (if_yes rfl (one _ _ _ hK)))))
/-- a neighbour, and its label -/
def lbN (dA : Nat → ClassId) (h : hm_T) (x : Option Nat) (a : Option (List Int32)) : Prop := match x, a with
  | none, none => True
  | some o, some lab => ∃ (fs : List Value) (l : Nat), h o = some (.inr (8, fs)) ∧ fs[3]? = some (.ref l) ∧ cp_lab dA h l lab ∧ lab.length ≤ 16
  | _, _ => False
theorem lb_25 {x lp : Nat} {fs : List Value} {labP : List Int32} {a b : Option (List Int32)} {x3 x4 : Option Nat} (c1 : h x = some (.inr (8, fs))) (c2 : fs[3]? = some (.ref lp)) (hl : cp_lab dA h lp labP) (h16 : labP.length ≤ 16) (La : ∀ w, h w = none → lbL dA h w x3 a) (Lb : ∀ w, h w = none → lbL dA h w x4 b) {c s : Nat} (hc : 2 ≤ c) (hs : 36 ≤ s) {K : Option Nat → hm_T → hz_T → Prop} (hK : ∀ (h1 : hm_T) (l1 : Nat), cp_lab dA h1 l1 (a_lb 20 labP a b) → h l1 = none → hm_mo h h1 (fun _ => False) → K (some l1) h1 z) : w_Node_labelBetween_25 dA K (some x) x3 x4 c s h z := by
  obtain ⟨f, f1, f2⟩ := hl
  unfold w_Node_labelBetween_25 w_Arrays_copyOfI
  refine cg_d_of (cg_R_ref c1 c2 (cg_rm_of (c1 := 1) (s1 := 18) (by omega) (by omega) (cg_d_of (cg_al_of f1 (if_no (fun q => by have := (nI_eq (a := 18) (by omega) (by omega)).mp q; omega) ⟨18, 0, 0, rfl, by omega, rfl, rfl, fun q hq => ?_⟩)))))
  have M0 : ∀ e, hm_mo h (hm_u h q e) (fun _ => False) := fun e b g hb _ => by rw [hm_n (hm_nn hb hq)]; exact hb
  refine cg_d_of (cg_al_of (M0 _ _ _ f1 id) (cg_d_of ?_))
  rw [if_neg (show ¬ (18 : Int32) < nI labP.length from nI_nlt (a := 18) (b := labP.length) (by omega) (by omega))]
  refine ⟨labP.length, labP.length, 18, f, _, rfl, M0 _ _ _ f1 id, hm_s, by omega, by omega, by omega, by omega, ?_⟩
  rw [hm_uu]
  refine cg_d_of (cg_R_ref (M0 _ _ _ c1 id) c2 (cg_d_of (cg_al_of (M0 _ _ _ f1 id) ?_)))
  have k : lbR dA (hm_u h q (.inl (dA 0, 18, .inl (va_cpy f (fun _ => 0) 0 0 labP.length)))) q labP := ⟨_, hm_s, fun i hi => by
    unfold va_cpy
    rw [if_pos (by omega), Nat.zero_add, Nat.sub_zero]
    exact f2 i hi⟩
  refine lb_loop (by omega) (by omega) 20 mF labP a b x3 x4 _ k ((La q hq).mo ((M0 _).weak (fun b w => w.elim))) ((Lb q hq).mo ((M0 _).weak (fun b w => w.elim))) (by omega) (by omega) (by unfold mF; omega) (fun h1 l1 L1 n1 M1 => hK h1 l1 L1 ?_ (fun b e hb _ => ?_))
  · cases e9 : h l1 with
    | none => rfl
    | some g => rw [M0 _ _ _ e9 id] at n1; cases n1
  · exact M1 _ _ (M0 _ _ _ hb id) (hm_nn hb hq)
theorem lb_between {x lp : Nat} {fs : List Value} {labP : List Int32} {a b : Option (List Int32)} {y1 y2 : Option Nat} (c1 : h x = some (.inr (8, fs))) (c2 : fs[3]? = some (.ref lp)) (hl : cp_lab dA h lp labP) (h16 : labP.length ≤ 16) (La : lbN dA h y1 a) (Lb : lbN dA h y2 b) {c s : Nat} (hc : 2 ≤ c) (hs : 36 ≤ s) {K : Option Nat → hm_T → hz_T → Prop} (hK : ∀ (h1 : hm_T) (l1 : Nat), cp_lab dA h1 l1 (a_lb 20 labP a b) → h l1 = none → hm_mo h h1 (fun _ => False) → K (some l1) h1 z) : w_Node_labelBetween dA (some x) y1 y2 c s K h z := by
  have conv : ∀ {l : Nat} {lab : List Int32}, cp_lab dA h l lab → lab.length ≤ 16 → ∀ w, h w = none → lbL dA h w (some l) (some lab) := fun hL h6 w hw => ⟨hL, (fun e => by obtain ⟨f, k1, _⟩ := hL; rw [e, hw] at k1; cases k1), h6⟩
  have go : ∀ x3 : Option Nat, (∀ w, h w = none → lbL dA h w x3 a) → w_Node_labelBetween_12 dA K (some x) y2 x3 c s h z := fun x3 L3 => by
    unfold w_Node_labelBetween_12
    cases y2 with
    | none =>
      cases b with
      | some _ => exact Lb.elim
      | none => exact if_yes rfl (lb_25 (b := none) (x4 := none) c1 c2 hl h16 L3 (fun w _ => trivial) hc hs hK)
    | some o =>
      cases b with
      | none => exact Lb.elim
      | some lab =>
        obtain ⟨fs2, l2, k1, k2, k3, k4⟩ := Lb
        exact if_no (by simp) (cg_d_of (cg_R_ref k1 k2 (lb_25 c1 c2 hl h16 L3 (conv k3 k4) hc hs hK)))
  unfold w_Node_labelBetween
  cases y1 with
  | none =>
    cases a with
    | some _ => exact La.elim
    | none => exact if_yes rfl (go none (fun w _ => trivial))
  | some o =>
    cases a with
    | none => exact La.elim
    | some lab =>
      obtain ⟨fs2, l2, k1, k2, k3, k4⟩ := La
      exact if_no (by simp) (cg_d_of (cg_R_ref k1 k2 (go (some l2) (conv k3 k4))))
end PQ9
-- insert: the class
def a_lf (D : Nat → nd) (pp sp : Nat) : Option Nat := mp_lst (fun j => decide ((D j).2.2.1 = some pp)) sp
def a_rt (n : Nat) (D : Nat → nd) (pp sp : Nat) : Option Nat := mp_fst (fun j => decide ((D j).2.2.1 = some pp)) (n - sp) sp
def a_tx (D : Nat → nd) (o : Option Nat) : Bool := match o with
  | some i => decide ((D i).2.1 = 2)
  | none => false
/-- an answer and no change; a text joined; nodes put in -/
abbrev iR : Type := Int32 ⊕ ((Nat × List Nat) ⊕ (Nat × Nat × List wn))
def a_jn (j : Nat) (t : List Nat) : iR := if t.length ≤ 20 then .inr (.inl (j, t)) else .inl (-2000)
def a_ins3 (mk n : Nat) (D : Nat → nd) (pp sp : Nat) (lf rt : Option Nat) (W : List wn) (ov : Bool) : iR := if (W.getD 0 wn0).1 = 2 ∧ a_tx D lf = true then a_jn (lf.getD 0) ((D (lf.getD 0)).2.2.2.2.2 ++ (W.getD 0 wn0).2.2.2.2.2) else if (W.getD 0 wn0).1 = 2 ∧ a_tx D rt = true then a_jn (rt.getD 0) ((W.getD 0 wn0).2.2.2.2.2 ++ (D (rt.getD 0)).2.2.2.2.2) else if a_over W ov = true ∨ 40 < n + W.length ∨ 200 < mk + W.length then .inl (-2000) else .inr (.inr (sp, pp, W))
def a_nlab (n : Nat) (D : Nat → nd) (pp sp : Nat) : List Int32 := a_lb 20 (D pp).2.2.2.1 ((a_lf D pp sp).map (fun i => (D i).2.2.2.1)) ((a_rt n D pp sp).map (fun i => (D i).2.2.2.1))
def a_ins2 (mk n : Nat) (D : Nat → nd) (xs : List Nat) (pp sp : Nat) : iR := match p_one xs (mp_dep (fun k => (D k).2.2.1) pp + 1) (a_nlab n D pp sp) with
  | .inl e => .inl (-1 - nI e)
  | .inr (W, ov) => a_ins3 mk n D pp sp (a_lf D pp sp) (a_rt n D pp sp) W ov
def a_sp (n : Nat) (D : Nat → nd) (k : Nat) (wh : Int32) : Nat := if wh = 0 then k else if wh = 2 then k + 1 else a_end n D k
def a_pp (D : Nat → nd) (k : Nat) (wh : Int32) : Option Nat := if wh = 0 ∨ wh = 1 then (D k).2.2.1 else some k
def a_insert (mk n : Nat) (D : Nat → nd) (xs : List Nat) (x wh : Int32) : iR := match a_at n D x with
  | none => .inl (-1000)
  | some k => if wh < 0 ∨ 3 < wh then .inl (-2000) else match a_pp D k wh with
    | none => .inl (-2000)
    | some pp => if (D pp).2.1 = 1 then a_ins2 mk n D xs pp (a_sp n D k wh) else .inl (-2000)
/-- elements lie at most five deep -/
def nd_d5 (n : Nat) (D : Nat → nd) : Prop := ∀ k, k < n → (D k).2.1 = 1 → mp_dep (fun k => (D k).2.2.1) k ≤ 5
section PQ10
variable {dA : Nat → ClassId} {h h1 : hm_T} {z : hz_T} {y mk n m : Nat} {D D2 : Nat → nd} {xs ws : List Nat} {rs : List Int32} {ch : Int32} {bu bv sc sv fo a aM aO aE : Nat} {N B E : Nat → Nat} {J : Nat → Int32 × Option Nat × Int32 × Nat × Nat × Int32} {V : Nat → Int32 × Nat × Nat}
/-- the count of changes goes up -/
theorem cPCS.inc (C : cPCS dA y h z mk n D m D2 xs rs ch bu bv sc sv fo a aM aO aE N B E J V ws) : cPIC dA y (hm_u h y (.inr (0, [.ref bu, .ref sc, .ref a, .ref fo, .int (nI rs.length), .int (ch + 1)]))) z mk n D m D2 xs rs (ch + 1) := by
  have S := C.1
  obtain ⟨fs, x, e1, e2, fs2, e3, e4, P3⟩ := pc_inc (K := fun h1 => cPIC dA y h1 z mk n D m D2 xs rs (ch + 1)) C.pic (fun h1 P => P)
  unfold cp_S at S
  rw [S] at e1 e3
  have f1 : fs = [.ref bu, .ref sc, .ref a, .ref fo, .int (nI rs.length), .int ch] := by simpa using e1.symm
  have f2 : fs2 = [.ref bu, .ref sc, .ref a, .ref fo, .int (nI rs.length), .int ch] := by simpa using e3.symm
  subst f1 f2
  have : x = ch := by simpa using e2.symm
  subst this
  exact P3
theorem cp_joinNew (C : cPCS dA y h z mk n D m D2 xs rs ch bu bv sc sv fo a aM aO aE N B E J V ws) (ok : nd_ok mk n D) {k t1 t2 u1 u2 : Nat} {x1 x2 : List Nat} (hk : k < n) (z1 : z t1 = some (u1, x1)) (z2 : z t2 = some (u2, x2)) (h1 : x1.length ≤ 1000) (h2 : x2.length ≤ 1000) (c1 : ∀ c ∈ x1, c < 128) (c2 : ∀ c ∈ x2, c < 128) {c s : Nat} (hc : 5 ≤ c) (hs : 572 ≤ s) {K : Int32 → hm_T → hz_T → Prop} (k0 : a_jn k (x1 ++ x2) = .inl (-2000) → K (-2000) h z) (k1 : a_jn k (x1 ++ x2) = .inr (.inl (k, x1 ++ x2)) → (x1 ++ x2).length ≤ 20 → ∀ h9 z9, cPIC dA y h9 z9 mk n (nd_set D k (x1 ++ x2)) m D2 xs rs (ch + 1) → K (nI (D k).1) h9 z9) : w_Store_joinNew dA y (some (B k)) (some t1) (some t2) c s K h z := by
  have C0 := C
  obtain ⟨S, jB, jS, jF, T, P, d, d2, r⟩ := C
  have el : (x1 ++ x2).length = x1.length + x2.length := List.length_append
  unfold w_Store_joinNew
  refine cg_d_of ⟨u1, x1, z1, cg_d_of ⟨u2, x2, z2, ?_⟩⟩
  simp only []
  rw [nI_add]
  by_cases q : x1.length + x2.length ≤ 20
  · refine if_yes (nI_le (b := 20) q (by decide)) (cg_c_of S (cg_rm_of hc hs (cp_joined S jS z1 z2 (by omega) c1 c2 (Nat.le_refl _) (Nat.le_refl _) (fun t h3 z3 sv1 ⟨u, hu⟩ jS1 hsv M Mz => ?_))))
    have C1 := C0.scr jS1 hsv M Mz
    have T1 := C1.2.2.2.2.1
    have ni1 := cp_nB T1 hk
    refine cg_d_of (cg_p_of ni1 (show 7 < 9 by decide) ?_)
    have C2 := C1.set ok hk hu rfl
    have S2 := C2.1
    have ni2 := cp_nB C2.2.2.2.2.1 hk
    refine cg_I_of S2 rfl (cg_p_of S2 (show 5 < 6 by decide) ?_)
    have yb : B k ≠ y := hm_ne ni2 S2 rfl
    refine cg_d_of (cg_I_of (by rw [hm_n yb]; exact ni2) rfl ?_)
    have k9 := k1 (if_pos (by omega)) (by omega) _ _ C2.inc
    rw [← (d k hk).2.2.2.1] at k9
    exact k9
  · exact if_no (nI_ge (a := 20) (by omega) (by omega)) (k0 (if_neg (by omega)))
theorem rPar_none {op : Option Nat} {as : List Nat} : rPar op as (0, none, 0, [], [], []) = op := rfl
theorem wI_lab {W : List wn} {od : Nat} {ov : Bool} {w : wn} {W2 : List wn} (I : wI od W ov) (e : W = w :: W2) (hd : w.2.2.1 = od) : ∀ K i, i < K → i < W.length → (W.getD i wn0).2.2.2.1.length + od = w.2.2.2.1.length + (W.getD i wn0).2.2.1 := by
  intro K
  induction K with
  | zero => intro i h; omega
  | succ K ih =>
    intro i hi hl
    have P := I.par hl
    cases e2 : (W.getD i wn0).2.1 with
    | none =>
      have := P.1 e2
      rw [this.2, e]
      show w.2.2.2.1.length + od = w.2.2.2.1.length + w.2.2.1
      rw [hd]
    | some j =>
      obtain ⟨a1, a2, a3, a4⟩ := P.2 j e2
      have L := (I.1 i hl).2.2.1.2.2.2 j e2
      have tk : (W.take i).getD j wn0 = W.getD j wn0 := by rw [List.getD_eq_getElem?_getD, List.getElem?_take, if_pos a1, ← List.getD_eq_getElem?_getD]
      rw [tk] at L
      rw [L, List.length_append, a3]
      have := ih j (by omega) (by omega)
      rw [List.length_singleton]
      omega
end PQ10
-- insert: the class, put together
theorem hm_del_u {h : hm_T} {q : Nat} {e : va_E} (hq : h q = none) : hm_del (hm_u h q e) q = h := by
  funext b
  by_cases w : b = q
  · rw [w, hm_del_s, hq]
  · rw [hm_del_o w, hm_n w]
section PQ11
variable {dA : Nat → ClassId} {h : hm_T} {z : hz_T} {y mk n m : Nat} {D D2 : Nat → nd} {xs ws : List Nat} {rs : List Int32} {ch : Int32} {bu bv sc sv fo a aM aO aE : Nat} {N B E : Nat → Nat} {J : Nat → Int32 × Option Nat × Int32 × Nat × Nat × Int32} {V : Nat → Int32 × Nat × Nat}
theorem cNEW.putNew {op po : Option Nat} {rd d : Nat} {as : List Nat} {W : List wn} {q : Nat → Nat × Nat × Nat × Nat} {sp od : Nat} {ov : Bool} {h0 : hm_T} {z0 : hz_T} {sv0 yr tt p : Nat} {xt : List Nat} {wr : Int32} (C : cNEW dA y h z mk n D m D2 xs rs ch bu bv sc sv fo a aM aO aE N B E J V ws op rd d as W q) (R : rRD dA h0 z0 sv0 op yr tt xt rd sc eNo h z p wr d as sv ws (tmI ov) W) (ok : nd_ok mk n D) (S9 : nd_spot n D sp po od) (I : wI od W ov) (hop : op = po.map B) (hmk : mk ≤ 200) (hW : 0 < W.length ∧ W.length ≤ 120) {K : Int32 → hm_T → hz_T → Prop} (k0 : (a_over W ov = true ∨ 40 < n + W.length ∨ 200 < mk + W.length) → K (-2000) h z) (k1 : ¬ (a_over W ov = true ∨ 40 < n + W.length ∨ 200 < mk + W.length) → ∀ h1, cPIC dA y h1 z (mk + W.length) (n + W.length) (nd_ins D sp mk po W) m D2 xs rs (ch + 1) → K (nI mk) h1 z) : w_Store_putNew dA y (some yr) (nI sp) K h z := by
  have C0 := C
  obtain ⟨S, jB, jS, jF, T, P, dd, dd2, r, jr, hd, hl, hi, hN, hw⟩ := C
  obtain ⟨mo, r1, r2⟩ := id jr
  have hn40 := ok.1
  have hsn := S9.1
  unfold w_Store_putNew w_Store_putNew_40
  refine cg_d_of (cg_R_ref R.1 rfl (cg_d_of ⟨d, as.length, mo, r1, cg_d_of (cg_c_of R.1 (rl_limits R hl (by omega) (fun i hi => by have := (I.1 i hi).2.2.1; omega) ?_))⟩))
  rw [hl]
  cases eo : a_over W ov with
  | true => exact if_no (by decide) (k0 (Or.inl eo))
  | false =>
    refine if_yes rfl (cg_R_ref S rfl (cg_d_of (cg_I_of T.1 rfl ?_)))
    rw [nI_add]
    by_cases g1 : 40 < n + W.length
    · exact if_yes (nI_lt (a := 40) g1 (by omega)) (k0 (Or.inr (Or.inl g1)))
    refine if_no (nI_nlt (a := 40) (b := n + W.length) (by omega) (by omega)) (cg_R_ref S rfl (cg_d_of (cg_c_of T.1 ?_)))
    unfold w_Tree_mayMake
    refine cg_I_of T.1 rfl ?_
    rw [nI_add]
    by_cases g2 : 200 < mk + W.length
    · exact if_yes (nI_lt (a := 200) g2 (by omega)) (if_yes rfl (k0 (Or.inr (Or.inr g2))))
    have g3 : ¬ (a_over W ov = true ∨ 40 < n + W.length ∨ 200 < mk + W.length) := fun w => by
      rcases w with w | w | w
      · rw [eo] at w; cases w
      · exact g1 w
      · exact g2 w
    refine if_no (nI_nlt (a := 200) (b := mk + W.length) (by omega) (by omega)) (if_no (by decide) (cg_R_ref S rfl (cg_d_of (cg_R_ref R.1 rfl (cg_d_of (cg_c_of T.1 ?_))))))
    refine C0.put (sp := sp) (od := od) (po := po) (ov := ov) ok S9 I hop (by omega) (by omega) (fun h6 P6 => ?_)
    obtain ⟨bu6, bv6, sc6, sv6, fo6, a6, aM6, aO6, aE6, N6, B6, E6, J6, V6, ws6, C6⟩ := P6
    have C6 : cPCS dA y h6 z (mk + W.length) (n + W.length) (nd_ins D sp mk po W) m D2 xs rs ch bu6 bv6 sc6 sv6 fo6 a6 aM6 aO6 aE6 N6 B6 E6 J6 V6 ws6 := C6
    have S6 := C6.1
    have T6 := C6.2.2.2.2.1
    have d6 := C6.2.2.2.2.2.2.1
    obtain ⟨f6, O6, hf6⟩ := id T6.2.2.1
    have hsp : sp < n + W.length := by omega
    have nb := cp_nB T6 hsp
    refine cg_I_of S6 rfl (cg_p_of S6 (show 5 < 6 by decide) (cg_R_ref hm_s rfl (cg_d_of ?_)))
    have n1 : a6 ≠ y := hm_ne T6.1 S6 rfl
    have n2 : aO6 ≠ y := hm_ne O6 S6 rfl
    have n3 : B6 sp ≠ y := hm_ne nb S6 rfl
    refine cg_R_ref (by rw [hm_n n1]; exact T6.1) rfl (cg_d_of (cg_ar_of (by rw [hm_n n2]; exact O6) (by omega) (by omega) (hf6 sp hsp) (cg_d_of (cg_I_of (by rw [hm_n n3]; exact nb) rfl ?_))))
    have k9 := k1 g3 _ C6.inc
    have e9 := (d6 sp hsp).2.2.2.1
    have e8 : (nd_ins D sp mk po W sp).1 = mk := by
      have := nd_ins_2 (D := D) (sp := sp) (mk := mk) (po := po) (W := W) (i := 0) hW.1
      rw [Nat.add_zero] at this
      rw [this]; rfl
    rw [e8] at e9
    rw [e9]
    exact k9
/-- an optional neighbour's label -/
theorem lbN_of (T : cp_T dA h a aM aO aE mk n m N B E J V) {Q : Nat → Prop} {tf : Nat → Nat} (d : cp_doc dA h z Q B J tf n D) (ok : nd_ok mk n D) {o : Option Nat} (ho : ∀ i, o = some i → i < n) : lbN dA h (o.map B) (o.map (fun i => (D i).2.2.2.1)) := by
  cases o with
  | none => trivial
  | some i =>
    have hi := ho i rfl
    exact ⟨_, _, cp_nB T hi, rfl, (d i hi).2.2.2.2.1, (ok.2 i hi).2.2.2.1⟩
/-- the reader read one node -/
theorem rl_first {op : Option Nat} {rd d : Nat} {as : List Nat} {W : List wn} {ov : Bool} {h0 : hm_T} {z0 : hz_T} {sv0 yr tt p : Nat} {xt : List Nat} {wr : Int32} (R : rRD dA h0 z0 sv0 op yr tt xt rd sc eNo h z p wr d as sv ws (tmI ov) W) (hl : as.length = W.length) (hW : 0 < W.length ∧ W.length ≤ 120) (hk : (W.getD 0 wn0).1 < 4) : (∀ K : Int32 → hm_T → hz_T → Prop, K (if (W.getD 0 wn0).1 = 2 then 1 else 0) h z → w_MarkupReader_startsWithText dA yr K h z) ∧ ∃ t u, z t = some (u, (W.getD 0 wn0).2.2.2.2.2) ∧ ∀ K2 : Option Nat → hm_T → hz_T → Prop, K2 (some t) h z → w_MarkupReader_firstText dA yr K2 h z := by
  obtain ⟨mo, r1, r2⟩ := id R.2.2.2.1
  obtain ⟨l, aq, tx, kt, k1, _, _, _, _, _, _, ⟨u, k2⟩, _⟩ := (R.2.2.2.2.2.1 0 hW.1).1
  have hne : as ≠ [] := fun w => by rw [w] at hl; simp at hl; omega
  rcases r2 with j2 | ⟨_, nn, ff, c3, w1, w2, w3⟩
  · exact absurd j2.1 hne
  have e0 : (if as.length = 0 then (1 : Int32) else 0) = 0 := if_neg (by omega)
  refine ⟨fun K hK => ?_, tx, u, k2, fun K2 hK => ?_⟩
  · unfold w_MarkupReader_startsWithText w_MarkupReader_startsWithText_31
    refine cg_R_ref R.1 rfl (cg_d_of ⟨d, as.length, mo, r1, by omega, ?_⟩)
    rw [e0]
    refine if_yes rfl (cg_R_ref R.1 rfl (cg_d_of ⟨d, as.length, mo, nn, 0, as.getD 0 0, ff, r1, c3, rfl, by omega, w1, by omega, w3 0 (by omega), cg_c_of k1 ?_⟩))
    unfold w_Store_isText w_Store_isText_16
    refine if_no (by simp) (cg_d_of (cg_I_of k1 rfl ?_))
    by_cases q : (W.getD 0 wn0).1 = 2
    · rw [if_pos q] at hK
      exact if_yes (by rw [q]; rfl) (if_no (by decide) hK)
    · rw [if_neg q] at hK
      exact if_no (fun w => q ((nI_eq (b := 2) (by omega) (by decide)).mp w)) (if_yes rfl hK)
  · unfold w_MarkupReader_firstText
    refine cg_R_ref R.1 rfl (cg_d_of ⟨d, as.length, mo, r1, by omega, ?_⟩)
    rw [e0]
    refine if_yes rfl (cg_R_ref R.1 rfl (cg_d_of ⟨d, as.length, mo, nn, 0, as.getD 0 0, ff, r1, c3, rfl, by omega, w1, by omega, w3 0 (by omega), cg_c_of k1 (cg_R_ref k1 rfl hK)⟩))
theorem cp_isT (T : cp_T dA h a aM aO aE mk n m N B E J V) {Q : Nat → Prop} {tf : Nat → Nat} (d : cp_doc dA h z Q B J tf n D) (ok : nd_ok mk n D) {o : Option Nat} (ho : ∀ i, o = some i → i < n) {K : Int32 → hm_T → hz_T → Prop} (hK : K (if a_tx D o = true then 1 else 0) h z) : w_Store_isText dA (o.map B) K h z := by
  refine cp_isText T ho ?_
  cases o with
  | none => exact hK
  | some i =>
    have hi := ho i rfl
    have oi := ok.2 i hi
    have ki : (J (B i)).1 = 2 ↔ (D i).2.1 = 2 := by rw [(d i hi).1]; exact nI_eq (b := 2) (by omega) (by decide)
    unfold a_tx at hK
    by_cases q : (D i).2.1 = 2
    · rw [cp_tx_1 (ki.mpr q)]
      rw [if_pos (decide_eq_true q)] at hK
      exact hK
    · rw [cp_tx_0 (fun w => q (ki.mp w))]
      rw [if_neg (by simp [q])] at hK
      exact hK
/-- insert, from the place on -/
theorem pc_ins108 (C : cPCS dA y h z mk n D m D2 [] rs ch bu bv sc sv fo a aM aO aE N B E J V ws) (ok : nd_ok mk n D) (hmk : mk ≤ 200) (d5 : nd_d5 n D) {t u : Nat} (ht : z t = some (u, xs)) (hx120 : xs.length ≤ 120) (hx128 : ∀ c ∈ xs, c < 128) {pp sp : Nat} (S9 : nd_spot n D sp (some pp) (mp_dep (fun k => (D k).2.2.1) pp + 1)) {c s : Nat} (hc : 40 * xs.length + 50 ≤ c) (hs : 2600 * xs.length + 3300 ≤ s) {K : Int32 → hm_T → hz_T → Prop} (k0 : ∀ v, a_ins2 mk n D xs pp sp = .inl v → ∀ h1 z1, cPIC dA y h1 z1 mk n D m D2 [] rs ch → K v h1 z1) (k1 : ∀ j tx, a_ins2 mk n D xs pp sp = .inr (.inl (j, tx)) → j < n → (∀ c ∈ tx, c < 128) → tx.length ≤ 20 → ∀ h1 z1, cPIC dA y h1 z1 mk n (nd_set D j tx) m D2 [] rs (ch + 1) → K (nI (D j).1) h1 z1) (k2 : ∀ W, a_ins2 mk n D xs pp sp = .inr (.inr (sp, pp, W)) → ∀ h1 z1, cPIC dA y h1 z1 (mk + W.length) (n + W.length) (nd_ins D sp mk (some pp) W) m D2 [] rs (ch + 1) → K (nI mk) h1 z1) : w_Store_insert_108 dA y K (some t) (some (B pp)) (nI sp) c s h z := by
  have C0 := C
  obtain ⟨S, jB, jS, jF, T, P, d, d2, r⟩ := C
  have hsn := S9.1
  have hn40 := ok.1
  obtain ⟨hpp, hk1, _⟩ : pp < sp ∧ (D pp).2.1 = 1 ∧ True := by
    rcases S9.2 with ⟨w, _⟩ | ⟨pp2, w, h3, h4, _⟩
    · cases w
    · cases w; exact ⟨h3, h4, trivial⟩
  have np := cp_nB T (k := pp) (by omega)
  have hc9 : ∀ j, j < n → (J (B j)).2.1 = some (B pp) → pp < j := fun j hj q => by
    have q2 := cp_pa P d ok hj (show pp < n by omega)
    rw [q, decide_eq_true rfl] at q2
    exact (ok.2 j hj).2.2.1 pp (of_decide_eq_true q2.symm)
  have eL : mp_lst (fun j => decide ((J (B j)).2.1 = some (B pp))) sp = a_lf D pp sp := mp_lst_congr sp (fun j hj => cp_pa P d ok (by omega) (by omega))
  have eR : mp_fst (fun j => decide ((J (B j)).2.1 = some (B pp))) (n - sp) sp = a_rt n D pp sp := mp_fst_congr _ _ (fun j h1 h2 => cp_pa P d ok (by omega) (by omega))
  have hlf : ∀ i, a_lf D pp sp = some i → i < n := fun i hi => by have := (mp_lst_some sp hi).1; omega
  have hrt : ∀ i, a_rt n D pp sp = some i → i < n := fun i hi => by have := (mp_fst_some _ _ hi).1; omega
  have ei : a_ins2 mk n D xs pp sp = match p_one xs (mp_dep (fun k => (D k).2.2.1) pp + 1) (a_nlab n D pp sp) with
    | .inl e => .inl (-1 - nI e)
    | .inr (W, ov) => a_ins3 mk n D pp sp (a_lf D pp sp) (a_rt n D pp sp) W ov := rfl
  have hdp := d5 pp (by omega) hk1
  unfold w_Store_insert_108
  refine cg_R_ref S rfl (cg_d_of (cg_c_of T.1 (cp_childBefore T ⟨_, np, by rw [← P.2.1 pp (by omega)]; rfl⟩ (by omega) hc9 hsn ?_)))
  rw [eL]
  refine cg_R_ref S rfl (cg_d_of (cg_c_of T.1 (cp_childFrom T (some (B pp)) hsn ?_)))
  rw [eR]
  refine cg_new_of (by omega) (by omega) (fun q hq => ?_)
  have nq : ∀ {b : Nat} {e : va_E}, h b = some e → b ≠ q := fun hb w => by rw [w, hq] at hb; cases hb
  refine cg_R_ref (by rw [hm_n (nq S)]; exact S) rfl (cg_c_of hm_s (cg_rm_of (c1 := 1) (s1 := 3) (by omega) (by omega) (rl_init hm_s rfl (Nat.le_refl _) (Nat.le_refl _) (fun h3 rd R3 j3 hrd M3 => ?_))))
  have D3 := rl_start (dA := dA) (op := some (B pp)) (h2 := hm_u h q (.inr (6, [.null, .int 0, .int 0, .null, .null, .int 0]))) (ws0 := ws) (sv := sv) (xs := xs) (by rw [hm_del_u hq]; exact jS) R3 j3 hrd M3 ⟨⟨u, ht⟩, hx120, hx128⟩
  rw [hm_del_u hq] at D3
  have C3 := C0.scr D3.2.2.1 D3.2.2.2.2.2.2.2.2.1 D3.2.2.2.2.2.2.1 D3.2.2.2.2.2.2.2.1
  have T3 := C3.2.2.2.2.1
  have d3 := C3.2.2.2.2.2.2.1
  have np3 := cp_nB T3 (k := pp) (by omega)
  refine cg_rm_of (c1 := 2) (s1 := 36) (by omega) (by omega) (lb_between np3 rfl (d3 pp (by omega)).2.2.2.2.1 (ok.2 pp (by omega)).2.2.2.1 (lbN_of T3 d3 ok hlf) (lbN_of T3 d3 ok hrt) (Nat.le_refl _) (Nat.le_refl _) (fun h4 l L4 hl4 M4 => ?_))
  have L4 : cp_lab dA h4 l (a_nlab n D pp sp) := L4
  have D4 := D3.mo1 (p1 := 0) (tm1 := tmI false) (M4 _ _ D3.1 id) (M4.weak (fun b w => w.elim)) hz_mo.refl (tmI_01 _)
  have hll := (a_lb_len 20 (D pp).2.2.2.1 ((a_lf D pp sp).map (fun i => (D i).2.2.2.1)) ((a_rt n D pp sp).map (fun i => (D i).2.2.2.1)) (by have := (ok.2 pp (by omega)).2.2.2.1; omega) (fun l w => by
    cases e9 : a_lf D pp sp with
    | none => rw [e9] at w; cases w
    | some i => rw [e9] at w; cases w; exact (ok.2 i (hlf i e9)).2.2.2.1) (fun l w => by
    cases e9 : a_rt n D pp sp with
    | none => rw [e9] at w; cases w
    | some i => rw [e9] at w; cases w; exact (ok.2 i (hrt i e9)).2.2.2.1)).2
  have hll : (a_nlab n D pp sp).length ≤ 17 := hll
  have O : rOp h (some (B pp)) (mp_dep (fun k => (D k).2.2.1) pp + 1) := Or.inr ⟨B pp, _, mp_dep (fun k => (D k).2.2.1) pp, rfl, np, by rw [← (d pp (by omega)).2.2.1]; rfl, rfl⟩
  obtain ⟨mb, nb, fb, b1, b2, br⟩ := id D3.2.2.1
  obtain ⟨mo4, r41, r42⟩ := id D3.2.2.2.1
  refine cg_c_of D4.1 (cg_rm_of (c1 := 40 * xs.length + 40) (s1 := 2600 * xs.length + 2600) (by omega) (by omega) (rl_one jS O ⟨by omega, by omega⟩ L4 D4 (fun w => by
    rcases w with w | w | w | w | w | w
    · rw [w, D3.1] at hl4; cases hl4
    · rw [w, r41] at hl4; cases hl4
    · exact w.2 rfl
    · rw [w, b1] at hl4; cases hl4
    · rw [w, b2] at hl4; cases hl4
    · exact w) (D3.fr hl4) (by omega) (Nat.le_refl _) (Nat.le_refl _) (fun W ov e h5 z5 p5 d5' as5 sv5 ws5 D5 l5 => ?_) (fun e9 e he h5 z5 sv5 p5 tm5 ws5 R5 j5 s5 M5 Z5 => ?_)))
  · rw [e] at ei
    simp only [] at ei
    obtain ⟨wI5, ⟨w0, W20, eW, _⟩, hWl, hWlo⟩ := p_one_S hx128 (by omega) ⟨by omega, by omega⟩ (by omega) e
    have hW : 0 < W.length ∧ W.length ≤ 120 := ⟨by rw [eW]; simp, by omega⟩
    have C5 := C0.scr D5.2.2.1 D5.2.2.2.2.2.2.2.2.1 D5.2.2.2.2.2.2.1 D5.2.2.2.2.2.2.2.1
    obtain ⟨qf, N5⟩ := C0.new D5 l5
    have T5 := C5.2.2.2.2.1
    have S5 := C5.1
    have d55 := C5.2.2.2.2.2.2.1
    have w0k := (wI5.1 0 hW.1)
    have fst := rl_first D5 l5 hW w0k.1.2
    have c0 := w0k.2.2.2.2.1
    have tlen : (W.getD 0 wn0).2.2.2.2.2.length ≤ 1000 := w0k.2.2.2.2.2
    have eop : some (B pp) = (some pp).map B := rfl
    have put : ¬ ((W.getD 0 wn0).1 = 2 ∧ a_tx D (a_lf D pp sp) = true) → ¬ ((W.getD 0 wn0).1 = 2 ∧ a_tx D (a_rt n D pp sp) = true) → ∀ c s, w_Store_insert_249 dA y K (nI sp) (some q) c s h5 z5 := fun g1 g2 c s => by
      unfold a_ins3 at ei
      rw [if_neg g1, if_neg g2] at ei
      unfold w_Store_insert_249
      refine cg_c_of S5 (N5.putNew D5 ok S9 wI5 eop hmk hW (fun g => ?_) (fun g h6 P6 => ?_))
      · rw [if_pos g] at ei
        exact k0 _ ei h5 z5 C5.pic
      · rw [if_neg g] at ei
        exact k2 W ei h6 z5 P6
    have second : ¬ ((W.getD 0 wn0).1 = 2 ∧ a_tx D (a_lf D pp sp) = true) → ∀ c s, 5 ≤ c → 572 ≤ s → w_Store_insert_216 dA y K (nI sp) ((a_rt n D pp sp).map B) (some q) c s h5 z5 := fun g1 c s hc hs => by
      unfold w_Store_insert_216
      refine cg_d_of (cg_c_of D5.1 (fst.1 _ ?_))
      by_cases g0 : (W.getD 0 wn0).1 = 2
      · rw [if_pos g0]
        refine if_no (by decide) (cp_isT T5 d55 ok hrt ?_)
        by_cases g2 : a_tx D (a_rt n D pp sp) = true
        · rw [if_pos g2]
          cases e9 : a_rt n D pp sp with
          | none => rw [e9] at g2; cases g2
          | some i =>
            have hi := hrt i e9
            have oi := ok.2 i hi
            obtain ⟨_, tx, ut, ztx, ft⟩ := fst
            obtain ⟨u2, zt2⟩ := (d55 i hi).2.2.2.2.2.2.2
            refine if_no (by decide) (cg_d_of (cg_c_of D5.1 (ft _ ?_)))
            refine cg_d_of (cg_R_ref (cp_nB T5 hi) rfl (cg_c_of S5 (cg_rm_of hc hs (cp_joinNew C5 ok hi ztx zt2 tlen (by omega) c0 oi.2.2.2.2.2.2.2.1 (Nat.le_refl _) (Nat.le_refl _) (fun g => ?_) (fun g gl h9 z9 P9 => ?_)))))
            · unfold a_ins3 at ei
              rw [if_neg g1, if_pos ⟨g0, g2⟩, e9] at ei
              exact k0 _ (ei.trans g) h5 z5 C5.pic
            · unfold a_ins3 at ei
              rw [if_neg g1, if_pos ⟨g0, g2⟩, e9] at ei
              exact k1 i _ (ei.trans g) hi (fun c hc => (List.mem_append.mp hc).elim (c0 c) (oi.2.2.2.2.2.2.2.1 c)) gl h9 z9 P9
        · rw [if_neg g2]
          exact if_yes rfl (put g1 (fun w => g2 w.2) _ _)
      · rw [if_neg g0]
        exact if_yes rfl (put g1 (fun w => g0 w.1) _ _)
    refine cg_c_of D5.1 (rl_failed0 D5.1 (if_yes rfl (cg_c_of D5.1 (fst.1 _ ?_))))
    by_cases g0 : (W.getD 0 wn0).1 = 2
    · rw [if_pos g0]
      refine if_no (by decide) (cp_isT T5 d55 ok hlf ?_)
      by_cases g2 : a_tx D (a_lf D pp sp) = true
      · rw [if_pos g2]
        cases e9 : a_lf D pp sp with
        | none => rw [e9] at g2; cases g2
        | some i =>
          have hi := hlf i e9
          have oi := ok.2 i hi
          obtain ⟨_, tx, ut, ztx, ft⟩ := fst
          obtain ⟨u2, zt2⟩ := (d55 i hi).2.2.2.2.2.2.2
          refine if_no (by decide) (cg_d_of (cg_R_ref (cp_nB T5 hi) rfl (cg_c_of D5.1 (ft _ ?_))))
          refine cg_c_of S5 (cg_rm_of (by omega) (by omega) (cp_joinNew C5 ok hi zt2 ztx (by omega) tlen oi.2.2.2.2.2.2.2.1 c0 (Nat.le_refl _) (Nat.le_refl _) (fun g => ?_) (fun g gl h9 z9 P9 => ?_)))
          · unfold a_ins3 at ei
            rw [if_pos ⟨g0, g2⟩, e9] at ei
            exact k0 _ (ei.trans g) h5 z5 C5.pic
          · unfold a_ins3 at ei
            rw [if_pos ⟨g0, g2⟩, e9] at ei
            exact k1 i _ (ei.trans g) hi (fun c hc => (List.mem_append.mp hc).elim (oi.2.2.2.2.2.2.2.1 c) (c0 c)) gl h9 z9 P9
      · rw [if_neg g2]
        exact if_yes rfl (second (fun w => g2 w.2) _ _ (by omega) (by omega))
    · rw [if_neg g0]
      exact if_yes rfl (second (fun w => g0 w.1) _ _ (by omega) (by omega))
  · rw [e] at ei
    simp only [] at ei
    refine cg_c_of R5 (rl_failed1 R5 (by omega) (if_no (by decide) (cg_I_of R5 rfl (k0 _ ei h5 z5 (C0.scr j5 s5 M5 Z5).pic))))
end PQ11
-- insert: the class, from its start
theorem nd_spot_of {mk n k pp : Nat} {D : Nat → nd} {wh : Int32} (ok : nd_ok mk n D) (pre : nd_pre n D) (hk : k < n) (hp : a_pp D k wh = some pp) (h1 : (D pp).2.1 = 1) : nd_spot n D (a_sp n D k wh) (some pp) (mp_dep (fun k => (D k).2.2.1) pp + 1) := by
  have lt0 : ∀ k, k < n → ∀ p, (fun k => (D k).2.2.1) k = some p → p < k := fun k hk p e => (ok.2 k hk).2.2.1 p e
  have hes := mp_end_spec (pa := fun k => (D k).2.2.1) hk
  have up : (wh = 0 ∨ wh = 1) → (D k).2.2.1 = some pp := fun w => by unfold a_pp at hp; rwa [if_pos w] at hp
  have dn : ¬ (wh = 0 ∨ wh = 1) → k = pp := fun w => by unfold a_pp at hp; rw [if_neg w] at hp; cases hp; rfl
  unfold a_sp
  by_cases a0 : wh = 0
  · rw [if_pos a0]
    have e := up (Or.inl a0)
    have h2 := (pre k hk pp e).2
    exact ⟨Nat.le_of_lt hk, Or.inr ⟨pp, rfl, lt0 k hk pp e, h1, rfl, h2, fun _ => by rw [mp_dep_some lt0 hk e]; exact Nat.le_refl _⟩⟩
  rw [if_neg a0]
  by_cases a2 : wh = 2
  · rw [if_pos a2]
    have e := dn (fun w => w.elim a0 (fun w => absurd (w.symm.trans a2) (by decide)))
    subst e
    refine ⟨by omega, Or.inr ⟨k, rfl, by omega, h1, rfl, fun j g1 g2 => by omega, fun hs => ?_⟩⟩
    cases e2 : (D (k + 1)).2.2.1 with
    | none => rw [mp_dep_none (pa := fun k => (D k).2.2.1) e2]; omega
    | some q =>
      have hq := lt0 (k + 1) hs q e2
      rw [mp_dep_some lt0 hs e2]
      by_cases w : q = k
      · rw [w]; exact Nat.le_refl _
      · have := (pre (k + 1) hs q e2).2 k (by omega) (by omega)
        omega
  rw [if_neg a2]
  by_cases a1 : wh = 1
  · have e := up (Or.inr a1)
    have h2 := (pre k hk pp e).2
    have hl := lt0 k hk pp e
    have hd := mp_dep_some lt0 hk e
    refine ⟨hes.2.1, Or.inr ⟨pp, rfl, by have := hes.1; unfold a_end; omega, h1, rfl, fun j g1 g2 => ?_, fun hs => ?_⟩⟩
    · by_cases w : j < k
      · exact h2 j g1 w
      · by_cases w2 : j = k
        · rw [w2, hd]; omega
        · have := hes.2.2.1 j (by omega) g2
          omega
    · have := hes.2.2.2 hs
      unfold a_end
      omega
  · have e := dn (fun w => w.elim a0 a1)
    subst e
    refine ⟨hes.2.1, Or.inr ⟨k, rfl, hes.1, h1, rfl, fun j g1 g2 => hes.2.2.1 j g1 g2, fun hs => ?_⟩⟩
    have := hes.2.2.2 hs
    unfold a_end
    omega
section PQ12
variable {dA : Nat → ClassId} {h : hm_T} {z : hz_T} {y mk n m : Nat} {D D2 : Nat → nd} {xs ws : List Nat} {rs : List Int32} {ch : Int32} {bu bv sc sv fo a aM aO aE : Nat} {N B E : Nat → Nat} {J : Nat → Int32 × Option Nat × Int32 × Nat × Nat × Int32} {V : Nat → Int32 × Nat × Nat}
theorem pc_ins43 (C : cPCS dA y h z mk n D m D2 [] rs ch bu bv sc sv fo a aM aO aE N B E J V ws) (ok : nd_ok mk n D) (pre : nd_pre n D) (hmk : mk ≤ 200) (d5 : nd_d5 n D) {t u : Nat} (ht : z t = some (u, xs)) (hx120 : xs.length ≤ 120) (hx128 : ∀ c ∈ xs, c < 128) {k : Nat} {x wh : Int32} (hk : k < n) (ex : a_at n D x = some k) {c s : Nat} (hc : 40 * xs.length + 50 ≤ c) (hs : 2600 * xs.length + 3300 ≤ s) {K : Int32 → hm_T → hz_T → Prop} (k0 : ∀ v, a_insert mk n D xs x wh = .inl v → ∀ h1 z1, cPIC dA y h1 z1 mk n D m D2 [] rs ch → K v h1 z1) (k1 : ∀ j tx, a_insert mk n D xs x wh = .inr (.inl (j, tx)) → j < n → (∀ c ∈ tx, c < 128) → tx.length ≤ 20 → ∀ h1 z1, cPIC dA y h1 z1 mk n (nd_set D j tx) m D2 [] rs (ch + 1) → K (nI (D j).1) h1 z1) (k2 : ∀ sp pp W, a_insert mk n D xs x wh = .inr (.inr (sp, pp, W)) → ∀ h1 z1, cPIC dA y h1 z1 (mk + W.length) (n + W.length) (nd_ins D sp mk (some pp) W) m D2 [] rs (ch + 1) → K (nI mk) h1 z1) : w_Store_insert_43 dA y K wh (some t) (some (B k)) ((a_pp D k wh).map B) c s h z := by
  have C0 := C
  obtain ⟨S, jB, jS, jF, T, P, d, d2, r⟩ := C
  have hn40 := ok.1
  have ei : a_insert mk n D xs x wh = if wh < 0 ∨ 3 < wh then .inl (-2000) else match a_pp D k wh with
    | none => .inl (-2000)
    | some pp => if (D pp).2.1 = 1 then a_ins2 mk n D xs pp (a_sp n D k wh) else .inl (-2000) := by unfold a_insert; rw [ex]
  unfold w_Store_insert_43 w_Store_insert_68
  by_cases g1 : wh < 0
  · rw [if_pos (Or.inl g1)] at ei
    exact if_yes g1 (k0 _ ei h z C0.pic)
  refine if_no g1 ?_
  by_cases g2 : 3 < wh
  · rw [if_pos (Or.inr g2)] at ei
    exact if_yes g2 (k0 _ ei h z C0.pic)
  refine if_no g2 ?_
  rw [if_neg (fun w => w.elim g1 g2)] at ei
  cases e2 : a_pp D k wh with
  | none =>
    rw [e2] at ei
    exact if_yes rfl (k0 _ ei h z C0.pic)
  | some pp =>
    rw [e2] at ei
    simp only [] at ei
    have hpp : pp < n := by
      unfold a_pp at e2
      by_cases w : wh = 0 ∨ wh = 1
      · rw [if_pos w] at e2
        have := (ok.2 k hk).2.2.1 pp e2
        omega
      · rw [if_neg w] at e2; cases e2; exact hk
    have np := cp_nB T hpp
    have nk := cp_nB T hk
    have op := ok.2 pp hpp
    refine if_no (by simp) (cg_d_of (cg_I_of np rfl ?_))
    rw [(d pp hpp).1]
    by_cases g3 : (D pp).2.1 = 1
    · rw [if_pos g3] at ei
      refine if_yes (by rw [g3]; rfl) ?_
      have S9 := nd_spot_of ok pre hk e2 g3
      have go : w_Store_insert_108 dA y K (some t) (some (B pp)) (nI (a_sp n D k wh)) c s h z := pc_ins108 C0 ok hmk d5 ht hx120 hx128 S9 hc hs (fun v e => k0 v (ei.trans e)) (fun j tx e => k1 j tx (ei.trans e)) (fun W e => k2 _ _ W (ei.trans e))
      by_cases w0 : wh = 0
      · refine if_yes w0 (cg_d_of (cg_I_of nk rfl ?_))
        rw [P.2.1 k hk]
        unfold a_sp at go
        rwa [if_pos w0] at go
      refine if_no w0 ?_
      unfold a_sp at go
      rw [if_neg w0] at go
      by_cases w2 : wh = 2
      · rw [if_pos w2] at go
        refine if_yes w2 (cg_d_of (cg_I_of nk rfl ?_))
        rw [P.2.1 k hk, nI_1]
        exact go
      · rw [if_neg w2] at go
        have hdep : ∀ j, j < n → (J (B j)).2.2.1 = nI (mp_dep (fun k => (D k).2.2.1) j) ∧ mp_dep (fun k => (D k).2.2.1) j < 2 ^ 31 := fun j hj => ⟨(d j hj).2.2.1, by
          have := mp_dp_le (pa := fun k => (D k).2.2.1) (fun k hk p e => (ok.2 k hk).2.2.1 p e) (j + 1) j hj
          unfold mp_dep
          omega⟩
        exact if_no w2 (cg_R_ref S rfl (cg_d_of (cg_c_of T.1 (cp_endOf T P hdep hk go))))
    · rw [if_neg g3] at ei
      exact if_no (fun w => g3 ((nI_eq (b := 1) (by omega) (by decide)).mp w)) (k0 _ ei h z C0.pic)
theorem pc_insert (I : cPIC dA y h z mk n D m D2 xs rs ch) (ok : aOK mk n D m D2 xs rs) (d5 : nd_d5 n D) {x wh : Int32} {c s : Nat} (hc : 40 * xs.length + 60 ≤ c) (hs : 2600 * xs.length + 3600 ≤ s) {K : Int32 → hm_T → hz_T → Prop} (k0 : ∀ v, a_insert mk n D xs x wh = .inl v → ∀ h1 z1, cPIC dA y h1 z1 mk n D m D2 [] rs ch → K v h1 z1) (k1 : ∀ j tx, a_insert mk n D xs x wh = .inr (.inl (j, tx)) → j < n → (∀ c ∈ tx, c < 128) → tx.length ≤ 20 → ∀ h1 z1, cPIC dA y h1 z1 mk n (nd_set D j tx) m D2 [] rs (ch + 1) → K (nI (D j).1) h1 z1) (k2 : ∀ sp pp W, a_insert mk n D xs x wh = .inr (.inr (sp, pp, W)) → ∀ h1 z1, cPIC dA y h1 z1 (mk + W.length) (n + W.length) (nd_ins D sp mk (some pp) W) m D2 [] rs (ch + 1) → K (nI mk) h1 z1) : w_Store_insert dA y x wh c s K h z := by
  obtain ⟨bu, bv, sc, sv, fo, a, aM, aO, aE, N, B, E, J, V, ws, C⟩ := I
  have C : cPCS dA y h z mk n D m D2 xs rs ch bu bv sc sv fo a aM aO aE N B E J V ws := C
  obtain ⟨S, jB, jS, jF, T, P, d, d2, r⟩ := id C
  unfold w_Store_insert
  refine cg_c_of S (cg_rm_of (c1 := 3) (s1 := 288) (by omega) (by omega) (cp_useBuffer S jB (Nat.le_refl _) (Nat.le_refl _) (fun t h1 z1 ⟨u, e1⟩ jB1 M Mz => ?_)))
  have C1 := C.buf jB1 (Or.inl rfl) (M.weak (fun b q => Or.inl q)) Mz
  obtain ⟨S1, _, _, _, T1, P1, d1, _, _⟩ := id C1
  refine cg_R_ref S1 rfl (cg_d_of (cg_c_of T1.1 ?_))
  cases e : a_at n D x with
  | none => exact cp_find_none T1 P1 (cp_nn T1 P1 d1 (a_at_none e)) (if_yes rfl (k0 _ (by unfold a_insert; rw [e]) h1 z1 C1.pic))
  | some k =>
    obtain ⟨hk, rfl⟩ := a_at_some e
    have o := ok.1.2 k hk
    have nk := cp_nB T1 hk
    refine cp_find_some T1 P1 hk o.1 (cp_nu T1 P1 d1 ok.1 ok.2.2.1 hk) (if_no (by simp) ?_)
    have go : w_Store_insert_43 dA y K wh (some t) (some (B k)) ((a_pp D k wh).map B) (c - 3) (s - 288) h1 z1 := pc_ins43 C1 ok.1 ok.2.2.2.2.2.2.2.2.1 ok.2.2.1 d5 e1 ok.2.2.2.1 (fun c hc => by have := ok.2.2.2.2.1 c hc; omega) hk e (by omega) (by omega) k0 k1 k2
    have ep := (d1 k hk).2.1
    have g33 : (wh = 0 ∨ wh = 1) → w_Store_insert_33 dA y K wh (some t) (some (B k)) (c - 3) (s - 288) h1 z1 := fun w => by
      unfold w_Store_insert_33
      refine cg_d_of (cg_R_of nk rfl ?_)
      rw [ep]
      unfold a_pp at go
      rwa [if_pos w] at go
    by_cases w0 : wh = 0
    · exact if_yes w0 (g33 (Or.inl w0))
    · refine if_no w0 ?_
      by_cases w1 : wh = 1
      · exact if_yes w1 (g33 (Or.inr w1))
      · refine if_no w1 ?_
        unfold a_pp at go
        rwa [if_neg (fun w => w.elim w0 w1)] at go
end PQ12
