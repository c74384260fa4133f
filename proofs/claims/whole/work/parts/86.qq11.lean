-- paths in the reference: a whole path is read
def sI (xs : List Nat) (st : mT) (N lv ns np ne : Nat) (l : List (qSt N)) : Prop := rCh (rS1 (rP1 xs st.2.1 N) (qc N) xs st.2.1) (cst (qc N)) st.2.1 30 j1 (-1) ns np l ∧ st.2.1 51 lv = oI (lpo (cst (qc N)) j1 (ns, np) l) ∧ rE st.2.1 ne (eCh (cst (qc N)) (eS (qc N) (eP N)) np l)
def hdL (st : mT) (lv ow ns : Nat) : Prop := if lv = 0 then st.1 48 = nI ns else st.2.1 38 ow = nI ns
section QQ11
variable {st0 : mT} {xs : List Nat} {Q : mT → Prop}
theorem rq_sts (b : md_buf st0 xs) {N lv ns np ne ow : Nat} {PR : Nat → Nat ⊕ (Nat × qPr N)} {can : Bool} (hlv : lv < 4) (hcan : (can = false ∧ lv = 3) ∨ (can = true ∧ lv + N = 3 ∧ lv < 3 ∧ qImpP xs st0 Q N PR)) (hne : ne ≤ np) : ∀ (f p : Nat) (l0 : List (qSt N)) (st : mT) (fu : Nat), p ≤ xs.length → xs.length < p + f → (lv ≠ 0 → st.2.1 50 lv = nI ow ∧ ow < np) → qM st0 st p lv lv (ns + (sm (cst (qc N)) l0).1) (np + (sm (cst (qc N)) l0).2) (ne + (eCh (cst (qc N)) (eS (qc N) (eP N)) np l0).length) 1 → sI xs st N lv ns np ne l0 → (l0 ≠ [] → hdL st lv ow ns) → ns + (sm (cst (qc N)) l0).1 ≤ p → 2 * (np + (sm (cst (qc N)) l0).2) ≤ p + 1 → 4 * xs.length + 5 ≤ 4 * p + fu → (∀ e s, q_sts xs PR can f p l0 = .inl e → qFr st0 s → s.1 9 = nI e → Q s) → (∀ q l s fu2, q_sts xs PR can f p l0 = .inr (q, l) → p < q → q ≤ xs.length → xs.getD q 0 ≠ 91 → xs.getD q 0 ≠ 47 → qM st0 s q lv lv (ns + (sm (cst (qc N)) l).1) (np + (sm (cst (qc N)) l).2) (ne + (eCh (cst (qc N)) (eS (qc N) (eP N)) np l).length) 2 → sI xs s N lv ns np ne l → l ≠ [] → hdL s lv ow ns → (lv ≠ 0 → s.1 48 = st.1 48) → s.1 49 = st.1 49 → qSame st s (fun a i => chT lv ns np ne ow a i ∧ ¬ (a = 41 ∧ i < np)) → ns + (sm (cst (qc N)) l).1 ≤ q → 2 * (np + (sm (cst (qc N)) l).2) ≤ q → 4 * xs.length + 8 ≤ 4 * q + fu2 → mq (g_readPath_52 fu2 s) Q) → mq (g_readPath_52 fu st) Q := by
  have hl := b.2.2.1
  have fP := frP_of (xs := xs) N
  have fS := frS_of (xs := xs) fP
  intro f
  induction f with
  | zero => intro p l0 st fu h1 h2; omega
  | succ f ih =>
    intro p l0 st fu hp hf how M I hd0 b1 b2 hfu kE kR
    unfold q_sts at kE kR
    obtain ⟨fu, rfl⟩ : ∃ f, fu = f + 1 := ⟨fu - 1, by omega⟩
    have t1 := rq_turn (fu := fu) M (Or.inl (by decide)) b (by decide) (by omega) hp
    have t2 := (rq_85 (k52 := g_readPath_52 fu) M).2.1 rfl
    obtain ⟨i1, i2, i3⟩ := I
    have eL := eCh_len (c := cst (qc N)) (e := eS (qc N) (eP N)) (fun bp s => eCh_len (eP_len N) s.2.2.2 bp) l0 np
    have lpl : ∀ l, lpo (cst (qc N)) j1 (ns, np) l0 = some l → l < ns + (sm (cst (qc N)) l0).1 := fun l hl => by
      rcases List.eq_nil_or_concat l0 with e | ⟨l', x, e⟩
      · rw [e] at hl; cases hl
      · have e' : l0 = l' ++ [x] := by rw [e]; simp
        rw [e', lpo_snoc] at hl
        cases hl
        rw [e', sm_snoc]
        have := (fS x).1
        show ns + (sm (cst (qc N)) l').1 < ns + ((sm (cst (qc N)) l').1 + (cst (qc N) x).1)
        omega
    have B := rq_step b hp (by omega) (by omega) M (last := lpo (cst (qc N)) j1 (ns, np) l0) (ow := ow) (by rw [i2]; cases lpo (cst (qc N)) j1 (ns, np) l0 <;> rfl) lpl (fun h0 => ⟨(how h0).1, by have := (how h0).2; omega⟩)
    rw [t1, t2]
    unfold q_step at kE kR
    by_cases q0 : a_let xs (q_hd xs p) = 0 ∧ q_sgn (xs.getD (q_hd xs p) 0) = 0
    · rw [if_pos q0] at kE
      obtain ⟨g1, s, x1, x2, x3⟩ := B.1 q0
      refine mq_b x1 ?_
      exact rq_stopQ (e := q_hd xs p) (by omega) (by omega) x3 (kE _ s rfl x2 x3)
    · rw [if_neg q0] at kE kR
      obtain ⟨g1, g2, s1, x1, M1, ⟨v25, v26, v27, v29, v30⟩, v51, v52, vL, v49, vS⟩ := B.2 q0
      refine mq_b x1 ?_
      generalize hp2 : q_hd xs p + (if a_let xs (q_hd xs p) = 0 then 1 else a_let xs (q_hd xs p)) = p2 at *
      generalize hsid : ns + (sm (cst (qc N)) l0).1 = sid at *
      generalize hbp : np + (sm (cst (qc N)) l0).2 = bp at *
      generalize hne2 : ne + (eCh (cst (qc N)) (eS (qc N) (eP N)) np l0).length = ne2 at *
      have ow50 : lv ≠ 0 → s1.2.1 50 lv = nI ow ∧ ow < 65 := fun h0 => ⟨by rw [vS 50 lv (by unfold qCh; omega)]; exact (how h0).1, by have := (how h0).2; omega⟩
      refine rq_prs (N := N) (sid := sid) (bp := bp) (ne := ne2) (PR := PR) (can := can) b hlv hcan (ow := ow) 130 p2 [] s1 fu g2 (by omega) ow50 M1 ⟨trivial, v29, v51, v52, fun i hi => absurd hi (by simp [eCh])⟩ (by show sid + 1 + 0 ≤ p2; omega) (by show 2 * (bp + 0) ≤ p2; omega) (by omega) (by omega) (fun e s ep F2 h9 => ?_) (fun q l s fu2 ep l1 l2 n91 M2 I2 h48 h49 hS d1 d2 hf2 => ?_)
      · rw [ep] at kE
        exact kE e s rfl F2 h9
      · rw [ep] at kE kR
        simp only [] at kE kR
        obtain ⟨j1', j2', j3', j4', j5'⟩ := I2
        generalize hst : ((q_axs (xs.getD p 0), (if a_let xs (q_hd xs p) = 0 then q_sgn (xs.getD (q_hd xs p) 0) else 0), (xs.drop (q_hd xs p)).take (a_let xs (q_hd xs p)), l) : qSt N) = sn at kE kR
        have cn : cst (qc N) sn = (1 + (sm (qc N) l).1, (sm (qc N) l).2) := by rw [← hst]; rfl
        have sS : sm (cst (qc N)) (l0 ++ [sn]) = ((sm (cst (qc N)) l0).1 + (1 + (sm (qc N) l).1), (sm (cst (qc N)) l0).2 + (sm (qc N) l).2) := by rw [sm_snoc, cn]
        have eE : eCh (cst (qc N)) (eS (qc N) (eP N)) np (l0 ++ [sn]) = eCh (cst (qc N)) (eS (qc N) (eP N)) np l0 ++ eCh (qc N) (eP N) bp l := by rw [eCh_snoc, hbp, ← hst]; rfl
        -- the new step
        have r1 : rS1 (rP1 xs s.2.1 N) (qc N) xs s.2.1 sid bp sn := by
          rw [← hst]
          refine ⟨?_, ?_, ?_, j2', j1', q_axs_le, ?_⟩
          · rw [hS 25 sid (by unfold chS; omega)]; exact v25
          · rw [hS 26 sid (by unfold chS; omega)]; exact v26
          · rw [hS 27 sid (by unfold chS; omega), hS 28 sid (by unfold chS; omega)]; exact v27
          · show (if a_let xs (q_hd xs p) = 0 then q_sgn (xs.getD (q_hd xs p) 0) else 0) ≤ 4
            split
            · exact q_sgn_eq
            · omega
        have r30 : s.2.1 30 sid = -1 := by rw [hS 30 sid (by unfold chS; omega)]; exact v30
        have sam : ∀ a i, ¬ chS lv sid bp ne2 a i → ¬ qCh lv sid (lpo (cst (qc N)) j1 (ns, np) l0) ow a i → s.2.1 a i = st.2.1 a i := fun a i h1 h2 => (hS a i h1).trans (vS a i h2)
        -- the chain so far
        have ch : rCh (rS1 (rP1 xs s.2.1 N) (qc N) xs s.2.1) (cst (qc N)) s.2.1 30 j1 (nI sid) ns np l0 ∧ hdL s lv ow ns := by
          rcases List.eq_nil_or_concat l0 with e | ⟨l', x, e⟩
          · subst e
            refine ⟨trivial, ?_⟩
            have e1 : sid = ns := by rw [← hsid]; rfl
            unfold qLnk at vL
            simp only [lpo] at vL
            unfold hdL
            by_cases h0 : lv = 0
            · rw [if_pos h0] at vL ⊢
              rw [h48, vL, e1]
            · rw [if_neg h0] at vL ⊢
              have := (how h0).2
              have e2 : bp = np := by rw [← hbp]; rfl
              rw [hS 38 ow (by unfold chS; omega), vL.1, e1]
          · have e' : l0 = l' ++ [x] := by rw [e]; simp
            have el : lpo (cst (qc N)) j1 (ns, np) l0 = some (ns + (sm (cst (qc N)) l').1) := by rw [e']; exact lpo_snoc
            rw [el] at vL sam
            have sL : sm (cst (qc N)) l0 = ((sm (cst (qc N)) l').1 + (cst (qc N) x).1, (sm (cst (qc N)) l').2 + (cst (qc N) x).2) := by rw [e']; exact sm_snoc l' x
            have e1 : (sm (cst (qc N)) l0).1 = (sm (cst (qc N)) l').1 + (cst (qc N) x).1 := by rw [sL]
            have e2 : (sm (cst (qc N)) l0).2 = (sm (cst (qc N)) l').2 + (cst (qc N) x).2 := by rw [sL]
            have f2 := (fS x).1
            have i1' := i1
            rw [e'] at i1'
            obtain ⟨k1, k2, k3⟩ := (rCh_snoc l' x ns np).mp i1'
            have sm2 : ∀ a i, (25 ≤ a → a ≤ 30 → i < sid) → (32 ≤ a → a ≤ 41 → i < bp) → ¬ (a = 30 ∧ i = ns + (sm (cst (qc N)) l').1) → a ≠ 44 → a < 50 → s.2.1 a i = st.2.1 a i := fun a i g1 g2 g3 g4 g5 => by
              refine sam a i (by unfold chS; omega) (fun w => ?_)
              rcases w with w | w | w | w
              · have := g1 w.1 w.2.1; omega
              · have := Option.some.inj w.2; omega
              · cases w.2.1
              · omega
            refine ⟨?_, ?_⟩
            · have key : rCh (rS1 (rP1 xs s.2.1 N) (qc N) xs s.2.1) (cst (qc N)) s.2.1 30 j1 (nI sid) ns np (l' ++ [x]) := by
                refine (rCh_snoc l' x ns np).mpr ⟨?_, ?_, ?_⟩
                · exact rCh_S (R := fun G => rS1 (rP1 xs G N) (qc N) xs G) fS l' st.2.1 s.2.1 _ _ _ k1 (fun a g1 g2 i g3 g4 => sm2 a i (fun _ _ => by omega) (fun h _ => by omega) (by omega) (by omega) (by omega)) (fun a g1 g2 i g3 g4 => sm2 a i (fun h h' => by omega) (fun _ _ => by omega) (by omega) (by omega) (by omega))
                · exact (fS x).2 st.2.1 s.2.1 _ _ k2 (fun a g1 g2 i g3 g4 => sm2 a i (fun _ _ => by omega) (fun h _ => by omega) (by omega) (by omega) (by omega)) (fun a g1 g2 i g3 g4 => sm2 a i (fun h h' => by omega) (fun _ _ => by omega) (by omega) (by omega) (by omega)) (fun a g1 g2 => sm2 a _ (fun _ _ => by omega) (fun h h' => by omega) (by omega) (by omega) (by omega))
                · unfold qLnk at vL
                  simp only [] at vL
                  show s.2.1 30 (ns + (sm (cst (qc N)) l').1) = nI sid
                  rw [hS 30 _ (by unfold chS; omega)]
                  exact vL.1
              rw [← e'] at key
              exact key
            · have hh := hd0 (by rw [e']; simp)
              unfold qLnk at vL
              simp only [] at vL
              unfold hdL at hh ⊢
              by_cases h0 : lv = 0
              · rw [if_pos h0] at hh ⊢
                rw [h48, vL.2]
                exact hh
              · rw [if_neg h0] at hh ⊢
                have := (how h0).2
                rw [sm2 38 ow (fun h h' => by omega) (fun _ _ => by omega) (by omega) (by omega) (by omega)]
                exact hh
        have I3 : sI xs s N lv ns np ne (l0 ++ [sn]) := by
          refine ⟨(rCh_snoc l0 sn ns np).mpr ⟨?_, ?_, ?_⟩, ?_, ?_⟩
          · rw [hsid, hbp]; exact ch.1
          · rw [hsid, hbp]; exact r1
          · rw [hsid, hbp]; exact r30
          · rw [lpo_snoc]
            show s.2.1 51 lv = nI (ns + (sm (cst (qc N)) l0).1)
            rw [hsid]
            exact j3'
          · rw [eE]
            refine rE.app (i3.cg (fun i h1 h2 => sam 44 i (by unfold chS; omega) (by unfold qCh; omega))) ?_
            rw [hne2]
            exact j5'
        have f48 : lv ≠ 0 → s.1 48 = st.1 48 := fun h0 => by
          rw [h48]
          unfold qLnk at vL
          cases hlp : lpo (cst (qc N)) j1 (ns, np) l0 with
          | some z => rw [hlp] at vL; exact vL.2
          | none =>
            rw [hlp] at vL
            simp only [] at vL
            rw [if_neg h0] at vL
            exact vL.2
        have fr : qSame st s (fun a i => chT lv ns np ne ow a i ∧ ¬ (a = 41 ∧ i < np)) := fun a i h => by
          refine sam a i (fun w => h ?_) (fun w => h ?_)
          · unfold chS at w
            unfold chT
            omega
          · refine ⟨?_, ?_⟩
            · rcases w with w | w | w | w
              · exact Or.inl ⟨w.1, w.2.1, by omega⟩
              · have h3 : ns ≤ i := by
                  rcases List.eq_nil_or_concat l0 with e | ⟨l', x, e⟩
                  · rw [e] at w; cases w.2
                  · have e' : l0 = l' ++ [x] := by rw [e]; simp
                    rw [e', lpo_snoc] at w
                    have := Option.some.inj w.2
                    have : ns + (sm (cst (qc N)) l').1 = i := this
                    omega
                exact Or.inl ⟨by omega, by omega, h3⟩
              · exact Or.inr (Or.inr (Or.inl ⟨Or.inl w.1, w.2.2.1, w.2.2.2⟩))
              · exact Or.inr (Or.inr (Or.inr (Or.inr (Or.inl w))))
            · rcases w with w | w | w | w <;> omega
        have mM : qM st0 s q lv lv (ns + (sm (cst (qc N)) (l0 ++ [sn])).1) (np + (sm (cst (qc N)) (l0 ++ [sn])).2) (ne + (eCh (cst (qc N)) (eS (qc N) (eP N)) np (l0 ++ [sn])).length) 2 := by
          rw [sS, eE, List.length_append]
          show qM st0 s q lv lv (ns + ((sm (cst (qc N)) l0).1 + (1 + (sm (qc N) l).1))) (np + ((sm (cst (qc N)) l0).2 + (sm (qc N) l).2)) _ 2
          rw [show ns + ((sm (cst (qc N)) l0).1 + (1 + (sm (qc N) l).1)) = sid + 1 + (sm (qc N) l).1 by omega, show np + ((sm (cst (qc N)) l0).2 + (sm (qc N) l).2) = bp + (sm (qc N) l).2 by omega, ← Nat.add_assoc, hne2]
          exact M2
        have bb1 : ns + (sm (cst (qc N)) (l0 ++ [sn])).1 ≤ q := by rw [sS]; show ns + ((sm (cst (qc N)) l0).1 + (1 + (sm (qc N) l).1)) ≤ q; omega
        have bb2 : 2 * (np + (sm (cst (qc N)) (l0 ++ [sn])).2) ≤ q := by rw [sS]; show 2 * (np + ((sm (cst (qc N)) l0).2 + (sm (qc N) l).2)) ≤ q; omega
        by_cases q47 : xs.getD q 0 = 47
        · have l47 := getD_pos q47 (by decide)
          rw [if_pos q47] at kE kR
          obtain ⟨fu2, rfl⟩ : ∃ f, fu2 = f + 1 := ⟨fu2 - 1, by omega⟩
          have t3 := rq_turn (fu := fu2) mM (Or.inr (Or.inr l47)) b (by decide) (by omega) l2
          have t4 := (rq_85 (k52 := g_readPath_52 fu2) mM).2.2.1 rfl
          have eL2 := eCh_len (c := cst (qc N)) (e := eS (qc N) (eP N)) (fun bp s => eCh_len (eP_len N) s.2.2.2 bp) (l0 ++ [sn]) np
          have ow50' : lv ≠ 0 → s.2.1 50 lv = nI ow ∧ ow < 65 := fun h0 => ⟨by rw [hS 50 lv (by unfold chS; omega)]; exact (ow50 h0).1, (ow50 h0).2⟩
          obtain ⟨s3, y1, y2, y3, y4, y5⟩ := (rq_behind b l2 (by omega) (by omega) mM (ow := ow) ow50' (by omega)).2.1 q47
          rw [t3, t4]
          refine mq_b y1 ?_
          have I4 : sI xs s3 N lv ns np ne (l0 ++ [sn]) := by unfold sI; rw [y3]; exact I3
          have hd3 : hdL s3 lv ow ns := by
            have := ch.2
            unfold hdL at this ⊢
            rw [y3, y4]
            exact this
          refine ih (q + 1) (l0 ++ [sn]) s3 fu2 (by omega) (by omega) (fun h0 => ⟨by rw [y3]; exact (ow50' h0).1, (how h0).2⟩) y2 I4 (fun _ => hd3) (by omega) (by omega) (by omega) kE (fun q2 l3 s4 fu4 ep2 m1 m2 m3 m4 m5 m6 m7 m8 m9 m10 m11 m12 m13 m14 => ?_)
          refine kR q2 l3 s4 fu4 ep2 (by omega) m2 m3 m4 m5 m6 m7 m8 (fun h0 => (m9 h0).trans (y4.trans (f48 h0))) (m10.trans (y5.trans (h49.trans v49))) (fun a i h => ?_) m12 m13 m14
          rw [m11 a i h, y3]
          exact fr a i h
        · rw [if_neg q47] at kR
          exact kR q (l0 ++ [sn]) s fu2 rfl (by omega) l2 n91 q47 mM I3 (by simp) ch.2 f48 (h49.trans v49) fr bb1 bb2 hf2
end QQ11
-- paths in the reference: the whole of it
section QQ12
variable {st0 : mT} {xs : List Nat} {Q : mT → Prop}
theorem rq_pth (b : md_buf st0 xs) {N : Nat} {PR : Nat → Nat ⊕ (Nat × qPr N)} {can : Bool} (hcan : ∀ lv, lv + N = 3 → (can = false ∧ lv = 3) ∨ (can = true ∧ lv + N = 3 ∧ lv < 3 ∧ qImpP xs st0 Q N PR)) : qImpT xs st0 Q N (q_pth xs PR can) := by
  have hl := b.2.2.1
  intro p lv ns np ne st fu ow hp hN M how h51 b1 b2 b3 hfu kE kR
  obtain ⟨fu, rfl⟩ : ∃ f, fu = f + 1 := ⟨fu - 1, by omega⟩
  have t1 := rq_turn (fu := fu) M (Or.inl (by decide)) b (by decide) (by omega) hp
  have t2 := (rq_85 (k52 := g_readPath_52 fu) M).1 rfl
  obtain ⟨g1, s1, x1, M1, v1, v2, v3⟩ := rq_path b hp (by omega) M (ow := ow) (fun h0 => ⟨(how h0).1, by have := (how h0).2; omega⟩)
  rw [t1, t2]
  refine mq_b x1 ?_
  unfold q_pth at kE kR
  have ple : p ≤ (if xs.getD p 0 = 47 then p + 1 else p) := by split <;> omega
  generalize hp1 : (if xs.getD p 0 = 47 then p + 1 else p) = p1 at *
  refine rq_sts b (N := N) (lv := lv) (ns := ns) (np := np) (ne := ne) (ow := ow) (PR := PR) (can := can) (by omega) (hcan lv hN) b3 130 p1 [] s1 fu g1 (by omega) (fun h0 => ⟨by rw [v3 50 lv (fun w => by omega)]; exact (how h0).1, (how h0).2⟩) M1 ⟨trivial, by rw [v3 51 lv (fun w => by omega)]; exact h51, fun i hi => absurd hi (by simp [eCh])⟩ (fun w => absurd rfl w) (by show ns + 0 ≤ p1; omega) (by show 2 * (np + 0) ≤ p1 + 1; omega) (by omega) (fun e s ep F2 h9 => ?_) (fun q l s fu2 ep l1 l2 n91 n47 M2 I2 hne hd h48 h49 hS d1 d2 hf2 => ?_)
  · rw [ep] at kE
    exact kE e s rfl F2 h9
  · rw [ep] at kR
    refine kR q (decide (xs.getD p 0 = 47), l) s fu2 rfl (by omega) l2 n91 n47 M2 ⟨I2.1, hne, ?_, fun h0 => ?_, I2.2.2, fun a i h => ?_⟩ d1 d2 hf2
    · unfold hLk hdL at *
      by_cases h0 : lv = 0
      · rw [if_pos h0] at v1 hd ⊢
        exact ⟨hd, h49.trans v1⟩
      · rw [if_neg h0] at v1 hd ⊢
        refine ⟨hd, ?_⟩
        rw [hS 41 ow (fun w => w.2 ⟨rfl, (how h0).2⟩)]
        exact v1.1
    · rw [if_neg h0] at v1
      exact ⟨(h48 h0).trans v2, h49.trans v1.2⟩
    · rw [hS a i (fun w => h w.1)]
      exact v3 a i (fun w => h (Or.inr (Or.inr (Or.inl ⟨Or.inr w.1, w.2⟩))))
theorem rq_T (b : md_buf st0 xs) : ∀ N, qImpT xs st0 Q N (q_T xs N) := by
  intro N
  induction N with
  | zero => exact rq_pth b (fun lv h => Or.inl ⟨rfl, by omega⟩)
  | succ N ih => exact rq_pth b (fun lv h => Or.inr ⟨rfl, h, by omega, rq_prd b ih⟩)
/-- what stands in the reference behind a path's reading -/
def rqG (xs : List Nat) (st0 : mT) (r : Nat ⊕ qPt 3) (s : mT) : Prop := qFr st0 s ∧ match r with
  | .inl e => s.1 9 = nI e
  | .inr pt => s.1 9 = -1 ∧ rCh (rS1 (rP1 xs s.2.1 3) (qc 3) xs s.2.1) (cst (qc 3)) s.2.1 30 j1 (-1) 0 0 pt.2 ∧ pt.2 ≠ [] ∧ s.1 48 = 0 ∧ s.1 49 = bI pt.1 ∧ s.1 43 = nI (eCh (cst (qc 3)) (eS (qc 3) (eP 3)) 0 pt.2).length ∧ rE s.2.1 0 (eCh (cst (qc 3)) (eS (qc 3) (eP 3)) 0 pt.2) ∧ (sm (cst (qc 3)) pt.2).1 ≤ 120 ∧ (sm (cst (qc 3)) pt.2).2 ≤ 60
theorem rq_top (b : md_buf st0 xs) : mq (g_readPath st0) (rqG xs st0 (q_top xs)) := by
  have hl := b.2.2.1
  have e0 : g_readPath st0 = g_readPath_52 mF (mm_G (mm_F (mm_F (mm_F (mm_F (mm_F (mm_F (mm_F (mm_F (mm_F st0 8 0) 9 (-1)) 24 0) 31 0) 43 0) 45 0) 46 0) 47 0) 48 (-1)) 51 0 (-1)) := by
    unfold g_readPath
    simp only [mm_lt]
    exact mp_ix (i := 0) (by decide) (by decide)
  rw [e0]
  have f1 : qFr st0 (mm_G (mm_F (mm_F (mm_F (mm_F (mm_F (mm_F (mm_F (mm_F (mm_F st0 8 0) 9 (-1)) 24 0) 31 0) 43 0) 45 0) 46 0) 47 0) 48 (-1)) 51 0 (-1)) := (((((((((qFr.refl.F (by unfold qfld; omega)).F (by unfold qfld; omega)).F (by unfold qfld; omega)).F (by unfold qfld; omega)).F (by unfold qfld; omega)).F (by unfold qfld; omega)).F (by unfold qfld; omega)).F (by unfold qfld; omega)).F (by unfold qfld; omega)).G (by unfold qarr; omega)
  have M : qM st0 (mm_G (mm_F (mm_F (mm_F (mm_F (mm_F (mm_F (mm_F (mm_F (mm_F st0 8 0) 9 (-1)) 24 0) 31 0) 43 0) 45 0) 46 0) 47 0) 48 (-1)) 51 0 (-1)) 0 0 0 0 0 0 0 := ⟨f1, rfl, rfl, rfl, rfl, rfl, rfl, rfl, rfl⟩
  refine rq_T (Q := rqG xs st0 (q_top xs)) b 3 0 0 0 0 0 _ mF 0 (Nat.zero_le _) rfl M (fun w => absurd rfl w) (fG_s (a := 51)) (Nat.le_refl _) (by omega) (Nat.le_refl _) (by unfold mF; omega) (fun e s ep F2 h9 => ?_) (fun q pt s fu2 ep l1 l2 n91 n47 M2 R2 d1 d2 hf2 => ?_)
  · unfold q_top
    rw [ep]
    exact ⟨F2, h9⟩
  · obtain ⟨fu2, rfl⟩ : ∃ f, fu2 = f + 1 := ⟨fu2 - 1, by omega⟩
    unfold q_top
    rw [ep]
    simp only []
    obtain ⟨r1, r2, r3, r4, r5, r6⟩ := R2
    by_cases e : q = xs.length
    · rw [if_pos e]
      have M3 := M2
      obtain ⟨m1, m2, m3, m4, m5, m6, m7, m8, m9⟩ := M2
      have bs := m1.buf b
      unfold g_readPath_52
      rw [if_neg (show ¬ (0 : Int32) ≤ s.1 9 by rw [m3]; decide), m9, if_pos (show nI 2 = 2 from rfl), m7, if_pos (show nI 0 = 0 from rfl), bs.1, m2, if_pos (nI_le (by omega) (by omega))]
      unfold hLk at r3
      rw [if_pos rfl] at r3
      rw [Nat.zero_add] at m6 d1 d2
      exact mq_some ⟨m1, m3, r1, r2, r3.1, r3.2, m6, r5, by omega, by omega⟩
    · rw [if_neg e]
      have eL := eCh_len (c := cst (qc 3)) (e := eS (qc 3) (eP 3)) (fun bp s => eCh_len (eP_len 3) s.2.2.2 bp) pt.2 0
      have t3 := rq_turn (fu := fu2) M2 (Or.inr (Or.inr (show q < xs.length by omega))) b (by decide) (by decide) l2
      have t4 := (rq_85 (k52 := g_readPath_52 fu2) M2).2.2.1 rfl
      obtain ⟨s3, y1, y2, y3⟩ := (rq_behind b l2 (by decide) (by decide) M2 (ow := 0) (fun w => absurd rfl w) (by omega)).2.2.1 (Or.inr ⟨n91, n47, Or.inl rfl⟩)
      rw [t3, t4]
      refine mq_b y1 ?_
      exact rq_stopQ (e := q) (by omega) (by omega) y3 ⟨y2, y3⟩
end QQ12
