-- reading: an element
def tE (r : Nat ⊕ (Nat × List (List Nat × List Nat) × Bool)) : Nat := match r with
  | .inl e => e
  | .inr (q, _) => q
def pccC (r : pR) (p : Nat) : Nat := match r with
  | .inl e => 40 * (e - p) + 41
  | .inr (q, _) => 40 * (q - p)
def pccS (r : pR) (p : Nat) : Nat := match r with
  | .inl e => 2600 * (e - p) + 2640
  | .inr (q, _) => 2600 * (q - p)
/-- a method of the class that reads what lies in the element of index j does as this says -/
def rImpC (dA : Nat → ClassId) (h0 : hm_T) (z0 : hz_T) (sv0 : Nat) (op : Option Nat) (y tt : Nat) (xs : List Nat) (rd sc : Nat) (F : Nat → Option Nat → Nat → Nat → (Int32 → hm_T → hz_T → Prop) → hm_T → hz_T → Prop) (f : Nat → Nat → List Int32 → Nat → List wn → Bool → pR) (N : Nat) : Prop :=
  ∀ (h : hm_T) (z : hz_T) (p d : Nat) (as : List Nat) (sv : Nat) (ws : List Nat) (ov : Bool) (W : List wn) (j dep : Nat) (lab : List Int32) (c s : Nat) (K : Int32 → hm_T → hz_T → Prop), rRD dA h0 z0 sv0 op y tt xs rd sc eNo h z p (-1) d as sv ws (tmI ov) W → as.length = W.length → j < W.length → W.length ≤ p → p ≤ xs.length → (W.getD j wn0).2.2.1 = dep → (W.getD j wn0).2.2.2.1 = lab → lab.length ≤ 18 + dep → dep ≤ 5 → 6 ≤ N + (dep + 1) → pccC (f j (dep + 1) lab p W ov) p ≤ c → pccS (f j (dep + 1) lab p W ov) p ≤ s →
    (∀ q W1 ov1, f j (dep + 1) lab p W ov = .inr (q, W1, ov1) → ∀ (h1 : hm_T) (z1 : hz_T) (d1 : Nat) (as1 : List Nat) (sv1 : Nat) (ws1 : List Nat), rRD dA h0 z0 sv0 op y tt xs rd sc eNo h1 z1 q (-1) d1 as1 sv1 ws1 (tmI ov1) W1 → as1.length = W1.length → aext as as1 → K 1 h1 z1) →
    (∀ e, f j (dep + 1) lab p W ov = .inl e → rEr dA h0 z0 sv0 y tt rd sc e (K 0)) → F y (some (as.getD j 0)) c s K h z
theorem atts_room {p q aE E tl c s : Nat} (h1 : p + 5 ≤ q) (hq : aE = q) (ht : q ≤ tl) (hc : 40 * (tl - p) + 20 ≤ c) (hs : 2600 * (tl - p) + 1600 ≤ s) : 7 + 11 * (aE + 1 - p) ≤ c ∧ 640 + 872 * (aE + 1 - p) ≤ s ∧ 40 * (tl - q) + 20 ≤ c - (7 + 11 * (aE + 1 - p)) ∧ 2600 * (tl - q) + 1600 ≤ s - (640 + 872 * (aE + 1 - p)) ∧ c ≤ c - (7 + 11 * (aE + 1 - p)) + 40 * (q - p) ∧ s ≤ s - (640 + 872 * (aE + 1 - p)) + 2600 * (q - p) := by omega
theorem atts_roomE {p aE c s : Nat} (h1 : p ≤ aE) (hc : 40 * (aE - p) + 20 ≤ c) (hs : 2600 * (aE - p) + 1600 ≤ s) : 7 + 11 * (aE + 1 - p) ≤ c ∧ 640 + 872 * (aE + 1 - p) ≤ s := by omega
theorem room_ch40 {c c1 c2 p q q2 : Nat} (h1 : c ≤ c1 + 40 * (q - p)) (h2 : c1 ≤ c2 + 40 * (q2 - q)) (a : p ≤ q) (b : q ≤ q2) : c ≤ c2 + 40 * (q2 - p) := by omega
theorem room_ch26 {c c1 c2 p q q2 : Nat} (h1 : c ≤ c1 + 2600 * (q - p)) (h2 : c1 ≤ c2 + 2600 * (q2 - q)) (a : p ≤ q) (b : q ≤ q2) : c ≤ c2 + 2600 * (q2 - p) := by omega
section PL13
variable {dA : Nat → ClassId} {h0 : hm_T} {z0 : hz_T} {sv0 : Nat} {op : Option Nat} {od y tt : Nat} {xs : List Nat} {rd sc : Nat} {ws0 : List Nat}
theorem rl_atts {P : Nat → Option Nat → Nat → Nat → (Int32 → hm_T → hz_T → Prop) → hm_T → hz_T → Prop} {K : Int32 → hm_T → hz_T → Prop} {par : Option Nat} {dep l x aq : Nat} {lab : List Int32} {nm : List Nat} {d : Nat} {as : List Nat} {W : List wn} : ∀ (f fu k p : Nat) (h : hm_T) (z : hz_T) (sv : Nat) (ws : List Nat) (ov : Bool) (ad : Nat) (aas : List Nat) (att : List (List Nat × List Nat)) (c s : Nat), rPe dA h0 z0 sv0 op y tt xs rd sc par dep l lab x aq nm h z p d as sv ws ov W ad aas att → xs.length + 1 ≤ p + f → xs.length + 1 ≤ p + fu → 0 < fu → k ≤ p → p ≤ xs.length → 40 * (tE (p_atts xs f p att ov) - p) + 20 ≤ c → 2600 * (tE (p_atts xs f p att ov) - p) + 1600 ≤ s →
    (∀ q att1 ov1, p_atts xs f p att ov = .inr (q, att1, ov1) → ∀ (h1 : hm_T) (z1 : hz_T) (sv1 : Nat) (ws1 : List Nat) (ad1 : Nat) (aas1 : List Nat) (c1 s1 : Nat), rPe dA h0 z0 sv0 op y tt xs rd sc par dep l lab x aq nm h1 z1 q d as sv1 ws1 ov1 W ad1 aas1 att1 → c ≤ c1 + 40 * (q - p) → s ≤ s1 + 2600 * (q - p) → w_MarkupReader_readElement_70 dA P y K (some x) c1 s1 h1 z1) →
    (∀ e, p_atts xs f p att ov = .inl e → rEr dA h0 z0 sv0 y tt rd sc e (K 0)) → w_MarkupReader_readElement_29 dA P y K fu (some x) (nI k) c s h z := by
  intro f
  induction f with
  | zero => intro fu k p h z sv ws ov ad aas att c s Pe h1 h2 h3 h4 h5; omega
  | succ f ih =>
    intro fu k p h z sv ws ov ad aas att c s Pe g1 g2 g3 g4 g5 hc hs kok kerr
    obtain ⟨fu, rfl⟩ : ∃ f, fu = f + 1 := ⟨fu - 1, by omega⟩
    have D := Pe.1
    have hlen := D.2.1.2.1
    have hcx := D.2.1.2.2
    obtain ⟨⟨u, hu⟩, _, _⟩ := id D.2.1
    have ep : p_atts xs (f + 1) p att ov = if xs.getD p 0 = 32 then (match p_att xs (p + 1) att with | .inl e => .inl e | .inr (q, nv) => p_atts xs f q (att ++ [nv]) (ov || decide (20 < nv.2.length))) else .inr (p, att, ov) := rfl
    have stop : xs.getD p 0 ≠ 32 → w_MarkupReader_readElement_70 dA P y K (some x) c s h z := fun w => by
      rw [if_neg w] at ep
      exact kok p att ov ep h z sv ws ad aas c s Pe (by omega) (by omega)
    unfold w_MarkupReader_readElement_29
    refine cg_R_ref D.1 rfl (cg_d_of ⟨u, xs, hu, ?_⟩)
    by_cases a0 : xs.length ≤ k
    · refine if_yes (nI_le a0 (by omega)) (stop (fun w => ?_))
      have := getD_pos w (by decide)
      omega
    refine if_no (nI_ge (by omega) (by omega)) (cg_I_of D.1 rfl (cg_c_of D.1 (rl_seen D.1 D.2.1 (by omega) ?_)))
    have h1l := getD_lt hcx p
    by_cases a1 : xs.getD p 0 = 32
    · have hpl := getD_pos a1 (by decide)
      rw [if_pos a1] at ep
      refine if_yes (by rw [a1]; rfl) (cg_c_of D.1 ?_)
      have L := p_att_le (xs := xs) (p := p + 1) (as := att) (by omega)
      cases e : p_att xs (p + 1) att with
      | inl e9 =>
        rw [e] at ep
        rw [ep] at hc hs
        have R := atts_roomE (p := p) (aE := e9) (by have := L.1 e9 e; omega) hc hs
        refine cg_rm_of R.1 R.2 (Pe.attr hpl (by rw [e]; exact Nat.le_refl _) (by rw [e]; exact Nat.le_refl _) (fun q nv w => ?_) (fun e8 w h1 z1 sv1 p1 tm1 ws1 b1 b2 b3 b4 b5 => ?_))
        · rw [e] at w; cases w
        · rw [e] at w; cases w
          exact if_yes rfl (kerr e9 ep h1 z1 sv1 p1 tm1 ws1 b1 b2 b3 b4 b5)
      | inr xx =>
        obtain ⟨q, nv⟩ := xx
        rw [e] at ep
        have Lq := L.2 q nv e
        have T := p_atts_le (xs := xs) f q (att ++ [nv]) (ov || decide (20 < nv.2.length)) Lq.2.1
        have hq : q ≤ tE (p_atts xs f q (att ++ [nv]) (ov || decide (20 < nv.2.length))) := by
          cases e9 : p_atts xs f q (att ++ [nv]) (ov || decide (20 < nv.2.length)) with
          | inl e8 => exact (T.1 _ e9).1
          | inr y8 => obtain ⟨y1, y2, y3⟩ := y8; exact (T.2 _ _ _ e9).1
        simp only [] at ep
        rw [ep] at hc hs kok kerr
        have R := atts_room (E := 0) (by omega) rfl hq hc hs
        refine cg_rm_of R.1 R.2.1 (Pe.attr hpl (by rw [e]; exact Nat.le_refl _) (by rw [e]; exact Nat.le_refl _) (fun q2 nv2 w h1 z1 sv1 ad1 o ws1 Pe1 => ?_) (fun e8 w => ?_))
        · rw [e] at w; cases w
          rw [nI_1]
          refine if_no (by decide) (ih fu (k + 1) q h1 z1 sv1 ws1 _ ad1 _ _ _ _ Pe1 (by have := Lq.1; omega) (by have := Lq.1; omega) (by have := Lq.1; omega) (by have := Lq.1; omega) Lq.2.1 R.2.2.1 R.2.2.2.1 (fun q2 att1 ov1 w2 h2 z2 sv2 ws2 ad2 aas2 c2 s2 Pe2 hc2 hs2 => ?_) kerr)
          have := (T.2 _ _ _ w2).1
          exact kok q2 att1 ov1 w2 h2 z2 sv2 ws2 ad2 aas2 c2 s2 Pe2 (room_ch40 R.2.2.2.2.1 hc2 (by omega) this) (room_ch26 R.2.2.2.2.2 hs2 (by omega) this)
        · rw [e] at w; cases w
    · exact if_no (fun w => a1 ((nI_eq (b := 32) (by omega) (by decide)).mp w)) (stop a1)
end PL13
