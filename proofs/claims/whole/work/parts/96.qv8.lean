-- the class's walker prepares a path
section QV8
variable {dA : Nat → ClassId} {h h1 : hm_T} {z z1 : hz_T} {w a n : Nat} {B : Nat → Nat} {D : Nat → nd} {F Y : Nat → Prop}
theorem no23 {b : Nat} {e : va_E} (c : h b = some e) (h12 : Nat.beq (hm_tag e) 12 = false) (h13 : Nat.beq (hm_tag e) 13 = false) : ¬ c23 h b := by
  rintro ⟨fs, k | k⟩
  · exact hm_ne c k h12 rfl
  · exact hm_ne c k h13 rfl
theorem cp_doc.mo23 {Q : Nat → Prop} {J : Nat → Int32 × Option Nat × Int32 × Nat × Nat × Int32} {tf : Nat → Nat} (j : cp_doc dA h z Q B J tf n D) (M : hm_mo h h1 Y) (Mz : hz_mo z z1) (hY : ∀ b, Y b → c23 h b) : cp_doc dA h1 z1 (fun _ => False) B J tf n D := by
  intro k hk
  obtain ⟨a1, a2, a3, a4, a5, a6, a7, u, a8⟩ := j k hk
  obtain ⟨fl, l1, l2⟩ := id a5
  obtain ⟨ad, as, j1, n1, n2, e, r⟩ := a7
  obtain ⟨mo, c1, c2⟩ := id j1
  refine ⟨a1, a2, a3, a4, a5.mo M (fun q => no23 l1 rfl rfl (hY _ q)), id, ⟨ad, as, j1.mo M (fun q => no23 c1 rfl rfl (hY _ q)) (fun w q => ?_), id, fun _ => id, e, fun i hi => ⟨(r i hi).1.mo M Mz (fun q => ?_), id⟩⟩, u, Mz _ _ a8⟩
  · rcases c2 with ⟨e2, _⟩ | ⟨_, n, f, c3, _⟩
    · exact w e2
    · exact no23 c3 rfl rfl (hY _ q)
  · obtain ⟨p1, p2, u1, u2, x1, x2, x3⟩ := (r i hi).1
    exact no23 x1 rfl rfl (hY _ q)
theorem wk.mo (G : wk dA h z w a n B D) (M : hm_mo h h1 Y) (Mz : hz_mo z z1) (hY : ∀ b, Y b → c23 h b) : wk dA h1 z1 w a n B D := by
  obtain ⟨aM, aO, aE, mk, m, N, E, J, V, Q, W, T, P, d, ok, pre, at0⟩ := G
  refine ⟨aM, aO, aE, mk, m, N, E, J, V, fun _ => False, M _ _ W (fun q => no23 W rfl rfl (hY _ q)), T.mo M (fun b hb q => ?_), P, d.mo23 M Mz hY, ok, pre, at0⟩
  obtain ⟨fs, c | c⟩ := hY b q
  · exact cp_nX T c rfl rfl rfl hb
  · exact cp_nX T c rfl rfl rfl hb
/-- the long of each unprepared object is 0 -/
abbrev kf0 : Nat → List Nat → Int64 := fun _ _ => 0
abbrev hf0 : (N : Nat) → qPr N → Int64 := fun _ _ => 0
def sE (D : Nat → nd) {α : Type} (s : sT α) (nm al k : Nat) : va_E := .inr (12, [.int (nI (q_axc s.1)), .int (nI (q_sgc s.2.1)), .ref nm, .ref al, .long (bO (q_kd D s.2.1 s.2.2.1) k)])
theorem wk_p28 {α : Type} {P : Nat → Option Nat → Nat → Nat → (hm_T → hz_T → Prop) → hm_T → hz_T → Prop} {K : hm_T → hz_T → Prop} {k2 : Option Nat → Int32 → Nat → Nat → hm_T → hz_T → Prop} {x1 : Option Nat} {x2 : Int32} {cr sr c nm al u : Nat} {s : sT α} (hz : z nm = some (u, s.2.2.1)) (hs : cs s.2.2.1) (hk4 : s.2.1 ≤ 4) : ∀ (r fu k : Nat) (h : hm_T), k + r = n → r < fu → wk dA h z w a n B D → h c = some (sE D s nm al k) → (∀ h1, wk dA h1 z w a n B D → h1 c = some (sE D s nm al n) → hm_mo h h1 (fun b => b = c) → w_Walker_prepare_83 dA P w K k2 mF x1 x2 (some c) 0 cr sr h1 z) → w_Walker_prepare_28 dA P w K k2 fu x1 x2 (some c) (nI k) cr sr h z := by
  intro r
  induction r with
  | zero =>
    intro fu k h hk hr G c0 hK
    obtain ⟨fu, rfl⟩ : ∃ f, fu = f + 1 := ⟨fu - 1, by omega⟩
    obtain rfl : k = n := by omega
    have hn := G.hn
    unfold w_Walker_prepare_28
    exact G.size (if_yes (nI_le (Nat.le_refl _) (by omega)) (hK h G c0 hm_mo.refl))
  | succ r ih =>
    intro fu k h hk hr G c0 hK
    obtain ⟨fu, rfl⟩ : ∃ f, fu = f + 1 := ⟨fu - 1, by omega⟩
    have hn := G.hn
    have c12 : c23 h c := ⟨_, Or.inl c0⟩
    have next : ∀ v, bO (q_kd D s.2.1 s.2.2.1) k ||| v = bO (q_kd D s.2.1 s.2.2.1) (k + 1) → w_Walker_prepare_70 dA P w K k2 (w_Walker_prepare_28 dA P w K k2 fu) x1 x2 (some c) (nI k) v (bO (q_kd D s.2.1 s.2.2.1) k) (some c) cr sr h z := fun v e => by
      unfold w_Walker_prepare_70
      refine cg_d_of (cg_p_of c0 (show 4 < 5 by decide) ?_)
      rw [e, nI_1]
      have M1 : hm_mo h (hm_u h c (sE D s nm al (k + 1))) (fun b => b = c) := hm_mo.u rfl
      exact ih fu (k + 1) _ (by omega) (by omega) (G.mo M1 hz_mo.refl (fun b q => by rw [q]; exact c12)) hm_s (fun h1 G1 c1 M2 => hK h1 G1 c1 (M1.trans M2))
    unfold w_Walker_prepare_28
    refine G.size (if_no (nI_ge (by omega) (by omega)) (cg_d_of (cg_L_of c0 rfl (G.node (by omega) (cg_d_of (cg_c_of c0 (wk_takes G c0 hz hs hk4 (by omega) ?_)))))))
    cases e : q_kd D s.2.1 s.2.2.1 k with
    | true => exact if_no (by decide) (next _ (bO_s1 e))
    | false => exact if_yes rfl (next _ (bO_s0 e))
/-- one object after the other is prepared -/
def prP (dA : Nat → ClassId) (z : hz_T) (w a n : Nat) (B : Nat → Nat) (D : Nat → nd) (F : Nat → Prop) (N : Nat) (P : Nat → Option Nat → Nat → Nat → (hm_T → hz_T → Prop) → hm_T → hz_T → Prop) : Prop := ∀ (h : hm_T) (L : List Nat) (r : Nat) (pr : qPr N) (cr sr : Nat) (K : hm_T → hz_T → Prop), wk dA h z w a n B D → pP dA h z F kf0 hf0 N L r pr → vPr N pr → L.Nodup → (∀ h1, wk dA h1 z w a n B D → pP dA h1 z F (kfD n D) (hfD n D) N L r pr → hm_mo h h1 (fun b => b ∈ L) → K h1 z) → P w (some r) cr sr K h z
theorem pl.mv {α : Type} {R R1 : List Nat → Nat → α → Prop} {F F2 Y : Nat → Prop} {h h1 : hm_T} {z z1 : hz_T} {L rs : List Nat} {xs : List α} (p : pl R L rs xs) (k : mvR h h1 z z1 F F2 Y R R1) (hL : ∀ b ∈ L, ¬ Y b) : pl R1 L rs xs := pl.imp _ _ _ (fun L1 r x hb q => k L1 r x (fun b hb1 _ => hL b (hb b hb1)) q) p
theorem wk_p83 {N : Nat} {P : Nat → Option Nat → Nat → Nat → (hm_T → hz_T → Prop) → hm_T → hz_T → Prop} (hP : prP dA z w a n B D F N P) {K : hm_T → hz_T → Prop} {k2 : Option Nat → Int32 → Nat → Nat → hm_T → hz_T → Prop} {x1 : Option Nat} {x2 : Int32} {cr sr c nm al : Nat} {s : qSt N} : ∀ (pb : List (qPr N)) (pa : List (qPr N)) (ra rb La Lb : List Nat) (fu : Nat) (h : hm_T), pb.length < fu → wk dA h z w a n B D → h c = some (sE D s nm al n) → jF dA h F al (ra ++ rb) → pl (pP dA h z F (kfD n D) (hfD n D) N) La ra pa → pl (pP dA h z F kf0 hf0 N) Lb rb pb → (∀ pr ∈ pb, vPr N pr) → (La ++ Lb).Nodup → c ∉ Lb → (∀ h1, wk dA h1 z w a n B D → h1 c = some (sE D s nm al n) → jF dA h1 F al (ra ++ rb) → pl (pP dA h1 z F (kfD n D) (hfD n D) N) (La ++ Lb) (ra ++ rb) (pa ++ pb) → hm_mo h h1 (fun b => b ∈ Lb) → k2 x1 (x2 + 1) cr sr h1 z) → w_Walker_prepare_83 dA P w K k2 fu x1 x2 (some c) (nI ra.length) cr sr h z := by
  intro pb
  induction pb with
  | nil =>
    intro pa ra rb La Lb fu h hf G c0 j pA pB vp nn hc hK
    obtain ⟨fu, rfl⟩ : ∃ f, fu = f + 1 := ⟨fu - 1, by omega⟩
    have hle := j.le
    cases rb with
    | cons r rb => exact pB.elim
    | nil =>
      have eL : Lb = [] := pB
      subst eL
      rw [List.append_nil] at j hle
      rw [List.append_nil, List.append_nil, List.append_nil] at hK
      unfold w_Walker_prepare_83
      exact cg_d_of (cg_R_ref c0 rfl (cg_d_of (j.sz (if_yes (nI_le (Nat.le_refl _) (by omega)) (hK h G c0 j pA hm_mo.refl)))))
  | cons pr pb ih =>
    intro pa ra rb La Lb fu h hf G c0 j pA pB vp nn hc hK
    obtain ⟨fu, rfl⟩ : ∃ f, fu = f + 1 := ⟨fu - 1, by omega⟩
    have hle := j.le
    cases rb with
    | nil => exact pB.elim
    | cons r rb =>
      obtain ⟨L1, L2, eL, p1, p2⟩ := pB
      subst eL
      rw [List.length_append, List.length_cons] at hle
      obtain ⟨fs, c13⟩ : ∃ fs, h r = some (.inr (13, fs)) := by
        cases N with
        | zero => exact p1.elim
        | succ N => obtain ⟨nm, st, u, v, po, L2, eL, f, c0, _⟩ := p1; exact ⟨_, c0⟩
      have all1 := pP.all (F := F) N L1 r pr p1
      obtain ⟨nA, nB, nAB⟩ := List.nodup_append.mp nn
      obtain ⟨n1, n2, n12⟩ := List.nodup_append.mp nB
      unfold w_Walker_prepare_83
      refine cg_d_of (cg_R_ref c0 rfl (cg_d_of (j.sz (if_no (nI_ge (by rw [List.length_append, List.length_cons]; omega) (by rw [List.length_append, List.length_cons]; omega)) (cg_d_of (cg_R_ref c0 rfl (cg_d_of (j.get (cg_c_of c13 (cg_c_of G.W (cg_rm_0 (hP h L1 r pr 0 0 _ G p1 (vp pr List.mem_cons_self) n1 (fun h1 G1 p1' M1 => ?_)))))))))))))
      have hY : ∀ b, F b → b ∈ L1 → c23 h b := fun b _ hb => (all1 b hb).2
      have mv : ∀ {hf : (N : Nat) → qPr N → Int64} {kf : Nat → List Nat → Int64}, mvR h h1 z z F F (fun b => b ∈ L1) (pP dA h z F kf hf N) (pP dA h1 z F kf hf N) := pP.mo M1 hz_mo.refl (fun b e _ f => f) hY N
      have e1 : nI ra.length + 1 = nI (ra ++ [r]).length := by rw [nI_1, List.length_append]; rfl
      rw [e1]
      have ea : ∀ {β : Type} (x y : List β) (q : β), (x ++ [q]) ++ y = x ++ q :: y := fun x y q => by rw [List.append_assoc]; rfl
      refine ih (pa ++ [pr]) (ra ++ [r]) rb (La ++ L1) L2 fu h1 (by simp at hf; omega) G1 (M1 _ _ c0 (fun q => hc (List.mem_append_left _ q))) (by rw [ea]; exact j.mo M1 (fun b e _ f => f) hY) (pl.snoc p1' _ _ _ (pA.mv mv (fun b hb q => nAB b hb b (List.mem_append_left _ q) rfl))) (p2.mv mv (fun b hb q => n12 b q b hb rfl)) (fun q hq => vp q (List.mem_cons_of_mem _ hq)) (by rw [List.append_assoc]; exact nn) (fun q => hc (List.mem_append_right _ q)) (fun h2 G2 c2 j2 p2' M2 => ?_)
      rw [ea] at j2
      rw [ea, ea, List.append_assoc] at p2'
      exact hK h2 G2 c2 j2 p2' ((M1.weak (fun b q => List.mem_append_left _ q)).trans (M2.weak (fun b q => List.mem_append_right _ q)))
/-- a step is prepared -/
theorem wk_pst {N : Nat} {P : Nat → Option Nat → Nat → Nat → (hm_T → hz_T → Prop) → hm_T → hz_T → Prop} (hP : prP dA z w a n B D F N P) {K : hm_T → hz_T → Prop} {k2 : Option Nat → Int32 → Nat → Nat → hm_T → hz_T → Prop} {x1 : Option Nat} {x2 : Int32} {cr sr c : Nat} {s : qSt N} {L : List Nat} (G : wk dA h z w a n B D) (p : sP dA h z F kf0 (pP dA h z F kf0 hf0 N) L c s) (vs : vSt (vPr N) s) (nn : L.Nodup) (hK : ∀ h1, wk dA h1 z w a n B D → sP dA h1 z F (kfD n D) (pP dA h1 z F (kfD n D) (hfD n D) N) L c s → hm_mo h h1 (fun b => b ∈ L) → k2 x1 (x2 + 1) cr sr h1 z) : w_Walker_prepare_28 dA P w K k2 mF x1 x2 (some c) 0 cr sr h z := by
  have hn := G.hn
  obtain ⟨nm, al, u, rs, L2, eL, f, c0, c1, j, p2⟩ := p
  subst eL
  obtain ⟨v1, v2, v3, v4⟩ := vs
  obtain ⟨nc, n2⟩ := List.nodup_cons.mp nn
  have hle := j.le
  have hlen := pl.len _ _ _ p2
  have hY : ∀ b, F b → b = c → c23 h b := fun b _ q => by rw [q]; exact ⟨_, Or.inl c0⟩
  refine wk_p28 (s := s) (nm := nm) (al := al) c1 v3 v2 n mF 0 h (by omega) (by unfold mF; omega) G c0 (fun h1 G1 c01 M1 => ?_)
  have j1 := j.mo M1 (fun b e _ f => f) hY
  have p1 : pl (pP dA h1 z F kf0 hf0 N) L2 rs s.2.2.2 := p2.mv (pP.mo M1 hz_mo.refl (fun b e _ f => f) hY N) (fun b hb q => nc (by rw [← q]; exact hb))
  have := wk_p83 (K := K) (k2 := k2) (x1 := x1) (x2 := x2) (cr := cr) (sr := sr) (nm := nm) (s := s) hP s.2.2.2 [] [] rs [] L2 mF h1 (by rw [← hlen]; unfold mF; omega) G1 c01 j1 rfl p1 v4 n2 nc (fun h2 G2 c2 j2 p9 M2 => hK h2 G2 ⟨nm, al, u, rs, L2, rfl, f, c2, c1, j2, p9⟩ ((M1.weak (fun b q => by rw [q]; exact List.mem_cons_self)).trans (M2.weak (fun b q => List.mem_cons_of_mem _ q))))
  exact this
theorem wk_p2 {N : Nat} {P : Nat → Option Nat → Nat → Nat → (hm_T → hz_T → Prop) → hm_T → hz_T → Prop} (hP : prP dA z w a n B D F N P) {K : hm_T → hz_T → Prop} {cr sr c al : Nat} {ab : Bool} : ∀ (sb sa : List (qSt N)) (ra rb La Lb : List Nat) (fu : Nat) (h : hm_T), sb.length < fu → wk dA h z w a n B D → h c = some (.inr (11, [.int (bI ab), .ref al])) → jF dA h F al (ra ++ rb) → pl (sP dA h z F (kfD n D) (pP dA h z F (kfD n D) (hfD n D) N)) La ra sa → pl (sP dA h z F kf0 (pP dA h z F kf0 hf0 N)) Lb rb sb → (∀ s ∈ sb, vSt (vPr N) s) → (La ++ Lb).Nodup → (∀ h1, wk dA h1 z w a n B D → h1 c = some (.inr (11, [.int (bI ab), .ref al])) → jF dA h1 F al (ra ++ rb) → pl (sP dA h1 z F (kfD n D) (pP dA h1 z F (kfD n D) (hfD n D) N)) (La ++ Lb) (ra ++ rb) (sa ++ sb) → hm_mo h h1 (fun b => b ∈ Lb) → K h1 z) → w_Walker_prepare_2 dA P w K fu (some c) (nI ra.length) cr sr h z := by
  intro sb
  induction sb with
  | nil =>
    intro sa ra rb La Lb fu h hf G c0 j pA pB vp nn hK
    obtain ⟨fu, rfl⟩ : ∃ f, fu = f + 1 := ⟨fu - 1, by omega⟩
    have hle := j.le
    cases rb with
    | cons r rb => exact pB.elim
    | nil =>
      have eL : Lb = [] := pB
      subst eL
      rw [List.append_nil] at j hle
      rw [List.append_nil, List.append_nil, List.append_nil] at hK
      unfold w_Walker_prepare_2
      exact cg_d_of (cg_R_ref c0 rfl (cg_d_of (j.sz (if_yes (nI_le (Nat.le_refl _) (by omega)) (hK h G c0 j pA hm_mo.refl)))))
  | cons s sb ih =>
    intro sa ra rb La Lb fu h hf G c0 j pA pB vp nn hK
    obtain ⟨fu, rfl⟩ : ∃ f, fu = f + 1 := ⟨fu - 1, by omega⟩
    have hle := j.le
    cases rb with
    | nil => exact pB.elim
    | cons r rb =>
      obtain ⟨L1, L2, eL, p1, p2⟩ := pB
      subst eL
      rw [List.length_append, List.length_cons] at hle
      obtain ⟨fs, c12⟩ : ∃ fs, h r = some (.inr (12, fs)) := by
        obtain ⟨nm, al, u, rs, L2, eL, f, c0, _⟩ := p1
        exact ⟨_, c0⟩
      have all1 := sP.all (pP.all (F := F) N) p1
      obtain ⟨nA, nB, nAB⟩ := List.nodup_append.mp nn
      obtain ⟨n1, n2, n12⟩ := List.nodup_append.mp nB
      unfold w_Walker_prepare_2
      refine cg_d_of (cg_R_ref c0 rfl (cg_d_of (j.sz (if_no (nI_ge (by rw [List.length_append, List.length_cons]; omega) (by rw [List.length_append, List.length_cons]; omega)) (cg_d_of (cg_R_ref c0 rfl (cg_d_of (j.get (cg_c_of c12 (wk_pst hP G p1 (vp s List.mem_cons_self) n1 (fun h1 G1 p1' M1 => ?_)))))))))))
      have hY : ∀ b, F b → b ∈ L1 → c23 h b := fun b _ hb => (all1 b hb).2
      have mv : ∀ {hf : (N : Nat) → qPr N → Int64} {kf : Nat → List Nat → Int64}, mvR h h1 z z F F (fun b => b ∈ L1) (sP dA h z F kf (pP dA h z F kf hf N)) (sP dA h1 z F kf (pP dA h1 z F kf hf N)) := sP.mo M1 hz_mo.refl (fun b e _ f => f) hY (pP.mo M1 hz_mo.refl (fun b e _ f => f) hY N)
      have e1 : nI ra.length + 1 = nI (ra ++ [r]).length := by rw [nI_1, List.length_append]; rfl
      rw [e1]
      have ea : ∀ {β : Type} (x y : List β) (q : β), (x ++ [q]) ++ y = x ++ q :: y := fun x y q => by rw [List.append_assoc]; rfl
      refine ih (sa ++ [s]) (ra ++ [r]) rb (La ++ L1) L2 fu h1 (by simp at hf; omega) G1 (M1 _ _ c0 (fun q => no23 c0 rfl rfl (all1 _ q).2)) (by rw [ea]; exact j.mo M1 (fun b e _ f => f) hY) (pl.snoc p1' _ _ _ (pA.mv mv (fun b hb q => nAB b hb b (List.mem_append_left _ q) rfl))) (p2.mv mv (fun b hb q => n12 b q b hb rfl)) (fun q hq => vp q (List.mem_cons_of_mem _ hq)) (by rw [List.append_assoc]; exact nn) (fun h2 G2 c2 j2 p2' M2 => ?_)
      rw [ea] at j2
      rw [ea, ea, List.append_assoc] at p2'
      exact hK h2 G2 c2 j2 p2' ((M1.weak (fun b q => List.mem_append_left _ q)).trans (M2.weak (fun b q => List.mem_append_right _ q)))
/-- a path is prepared -/
def prT (dA : Nat → ClassId) (z : hz_T) (w a n : Nat) (B : Nat → Nat) (D : Nat → nd) (F : Nat → Prop) (N : Nat) (P : Nat → Option Nat → Nat → Nat → (hm_T → hz_T → Prop) → hm_T → hz_T → Prop) : Prop := ∀ (h : hm_T) (L : List Nat) (c : Nat) (pt : qPt N) (cr sr : Nat) (K : hm_T → hz_T → Prop), wk dA h z w a n B D → tP dA h z F kf0 (pP dA h z F kf0 hf0 N) L c pt → (∀ s ∈ pt.2, vSt (vPr N) s) → L.Nodup → (∀ h1, wk dA h1 z w a n B D → tP dA h1 z F (kfD n D) (pP dA h1 z F (kfD n D) (hfD n D) N) L c pt → hm_mo h h1 (fun b => b ∈ L) → K h1 z) → P w (some c) cr sr K h z
theorem wk_prT {N : Nat} {P : Nat → Option Nat → Nat → Nat → (hm_T → hz_T → Prop) → hm_T → hz_T → Prop} (hP : prP dA z w a n B D F N P) : prT dA z w a n B D F N (w_Walker_prepare dA P) := by
  intro h L c pt cr sr K G p vs nn hK
  obtain ⟨al, rs, f, c0, j, p⟩ := p
  have hle := j.le
  have hlen := pl.len _ _ _ p
  unfold w_Walker_prepare
  have := wk_p2 (K := K) (cr := cr) (sr := sr) (c := c) (al := al) (ab := pt.1) hP pt.2 [] [] rs [] L mF h (by rw [← hlen]; unfold mF; omega) G c0 j rfl p vs nn (fun h1 G1 c1 j1 p1 M1 => hK h1 G1 ⟨al, rs, f, c1, j1, p1⟩ M1)
  exact this
theorem hbD_at {N : Nat} {pr : qPr (N + 1)} (h4 : pr.2.1 < 4) : hbD n D N pr = q_hat D pr.2.1 pr.2.2.2.1 pr.2.2.2.2.1 := by
  funext y
  exact if_pos h4
theorem hbD_pt {N : Nat} {pr : qPr (N + 1)} (h4 : 4 ≤ pr.2.1) : hbD n D N pr = q_hit n D (q_H n D N) pr.2.1 pr.2.2.2.2.1 pr.2.2.2.2.2.1 pr.2.2.2.2.2.2 := by
  funext y
  exact if_neg (by omega)
theorem wk_settle {N : Nat} (h0 : 0 < n) {Q : Nat → Option Nat → Nat → Nat → (hm_T → hz_T → Prop) → hm_T → hz_T → Prop} (hQ : prT dA z w a n B D F N Q) : prP dA z w a n B D F (N + 1) (w_Walker_settle dA Q) := by
  intro h L r pr cr sr K G p vp nn hK
  obtain ⟨v1, v2, v3, v4, v5⟩ := vp
  obtain ⟨nm, st, u, v, po, L2, eL, f, c0, c1, c2, c3, c4⟩ := p
  subst eL
  obtain ⟨nc, n2⟩ := List.nodup_cons.mp nn
  obtain ⟨i0, i1, i2⟩ := q_prc_in pr.2.1 v1
  unfold w_Walker_settle
  refine cg_d_of (cg_I_of c0 rfl ?_)
  by_cases q2 : pr.2.1 = 2 ∨ pr.2.1 = 3
  · refine if_yes (i2.mpr q2) (cg_c_of G.W (wk_wAtt G c0 c1 (v3 q2) c2 (fun q => v4 (Or.inl q)) q2 (cg_d_of (cg_p_of c0 (show 7 < 8 by decide) ?_))))
    obtain ⟨e1, e2, e3⟩ := c3 (by omega)
    have M1 : hm_mo h (hm_u h r (.inr (13, [.int (nI (q_prc1 pr.2.1)), .int (bI pr.1), .int (nI pr.2.2.1), .ref nm, va_rf po, .int (nI (q_cmc pr.2.1)), .ref st, .long (bO (q_hat D pr.2.1 pr.2.2.2.1 pr.2.2.2.2.1) n)]))) (fun b => b = r) := hm_mo.u rfl
    refine hK _ (G.mo M1 hz_mo.refl (fun b q => by rw [q]; exact ⟨_, Or.inr c0⟩)) ⟨nm, st, u, v, po, L2, rfl, f, ?_, c1, c2, fun _ => ⟨e1, e2, e3⟩, fun w => by omega⟩ (M1.weak (fun b q => by rw [q]; exact List.mem_cons_self))
    have eh : hfD n D (N + 1) pr = bO (q_hat D pr.2.1 pr.2.2.2.1 pr.2.2.2.2.1) n := by
      rw [← hbD_at (by omega)]
      exact if_neg (by omega)
    rw [eh]
    exact hm_s
  refine if_no (fun e => q2 (i2.mp e)) (cg_d_of (cg_R_of c0 rfl ?_))
  by_cases q4 : pr.2.1 < 4
  · obtain ⟨e1, e2, e3⟩ := c3 q4
    refine if_yes e1 (hK h G ⟨nm, st, u, v, po, L2, rfl, f, ?_, c1, c2, fun _ => ⟨e1, e2, e3⟩, fun w => by omega⟩ hm_mo.refl)
    have eh : hfD n D (N + 1) pr = 0 := if_pos (by omega)
    rw [eh]
    exact c0
  obtain ⟨pc, e1, tp⟩ := c4 (by omega)
  obtain ⟨w1, w2⟩ := v5 (by omega)
  subst e1
  refine if_no (by simp) (cg_d_of (cg_R_of c0 rfl (cg_c_of G.W (cg_rm_0 (hQ h L2 pc (pr.2.2.2.2.2.1, pr.2.2.2.2.2.2) 0 0 _ G tp w2 n2 (fun h1 G1 tp1 M1 => ?_))))))
  have c01 := M1 _ _ c0 nc
  refine cg_d_of (cg_R_of c01 rfl (cg_c_of G1.W (wk_goals G1 c01 c2 (fun q => v4 (Or.inr q)) v1 (by omega) (fun m hm => cg_c_of G1.W (wk_orig G1 tp1 w2 w1 h0 hm (cg_d_of (cg_p_of c01 (show 7 < 8 by decide) ?_)))))))
  have M2 : hm_mo h1 (hm_u h1 r (.inr (13, [.int (nI (q_prc1 pr.2.1)), .int (bI pr.1), .int (nI pr.2.2.1), .ref nm, va_rf (some pc), .int (nI (q_cmc pr.2.1)), .ref st, .long (bO (q_hit n D (q_H n D N) pr.2.1 pr.2.2.2.2.1 pr.2.2.2.2.2.1 pr.2.2.2.2.2.2) n)]))) (fun b => b = r) := hm_mo.u rfl
  have hY : ∀ b, F b → b = r → c23 h1 b := fun b _ q => by rw [q]; exact ⟨_, Or.inr c01⟩
  refine hK _ (G1.mo M2 hz_mo.refl (fun b q => by rw [q]; exact ⟨_, Or.inr c01⟩)) ⟨nm, st, u, v, some pc, L2, rfl, f, ?_, c1, c2, fun w => by omega, fun _ => ⟨pc, rfl, ?_⟩⟩ ((M1.weak (fun b q => List.mem_cons_of_mem _ q)).trans (M2.weak (fun b q => by rw [q]; exact List.mem_cons_self)))
  · have eh : hfD n D (N + 1) pr = bO (q_hit n D (q_H n D N) pr.2.1 pr.2.2.2.2.1 pr.2.2.2.2.2.1 pr.2.2.2.2.2.2) n := by
      rw [← hbD_pt (by omega)]
      exact if_neg (by omega)
    rw [eh]
    exact hm_s
  · exact tP.mo M2 hz_mo.refl (fun b e _ f => f) hY (pP.mo M2 hz_mo.refl (fun b e _ f => f) hY N) L2 pc _ (fun b hb _ q => nc (by rw [← q]; exact hb)) tp1
theorem wk_prF (h0 : 0 < n) : ∀ (N fu : Nat), N < fu → prT dA z w a n B D F N (w_F_Walker_prepare dA fu) := by
  intro N
  induction N with
  | zero =>
    intro fu hf
    obtain ⟨fu, rfl⟩ : ∃ f, fu = f + 1 := ⟨fu - 1, by omega⟩
    have := wk_prT (dA := dA) (z := z) (w := w) (a := a) (n := n) (B := B) (D := D) (F := F) (N := 0) (P := w_Walker_settle dA (w_F_Walker_prepare dA fu)) (fun h L r pr cr sr K G p _ _ _ => p.elim)
    exact this
  | succ N ih =>
    intro fu hf
    obtain ⟨fu, rfl⟩ : ∃ f, fu = f + 1 := ⟨fu - 1, by omega⟩
    have := wk_prT (wk_settle h0 (ih fu (by omega)))
    exact this
end QV8
-- the class's query
section QV9
variable {dA : Nat → ClassId} {h h1 : hm_T} {z z1 : hz_T} {y mk n m : Nat} {D D2 : Nat → nd} {xs ws : List Nat} {rs : List Int32} {ch : Int32} {bu bv sc sv fo a aM aO aE : Nat} {N B E : Nat → Nat} {J : Nat → Int32 × Option Nat × Int32 × Nat × Nat × Int32} {V : Nat → Int32 × Nat × Nat}
theorem rCh_mem {α : Type} {R : Nat → Nat → α → Prop} {c : α → Nat × Nat} {G : aT} {ar : Nat} {j : Nat × Nat → Nat} {nx : Int32} : ∀ (l : List α) (bs bp : Nat), rCh R c G ar j nx bs bp l → ∀ x ∈ l, ∃ bs bp, R bs bp x := by
  intro l
  induction l with
  | nil => intro bs bp _ x hx; cases hx
  | cons y l ih =>
    intro bs bp r x hx
    rcases List.mem_cons.mp hx with q | q
    · subst q; exact ⟨bs, bp, r.1⟩
    · exact ih _ _ r.2.2 x q
theorem rTx_cs {v w : Int32} {t : List Nat} (hl : xs.length ≤ 120) (hc : ∀ c ∈ xs, c < 128) (r : rTx xs v w t) : cs t := by
  obtain ⟨fr, _, _, r3, r4⟩ := r
  refine ⟨by omega, fun c h => ?_⟩
  rw [r4] at h
  exact hc c (List.mem_of_mem_drop (List.mem_of_mem_take h))
theorem vSt_of {α : Type} {V : α → Prop} {R : Nat → Nat → α → Prop} {c : α → Nat × Nat} {G : aT} {bs bp : Nat} {s : Nat × Nat × List Nat × List α} (hl : xs.length ≤ 120) (hc : ∀ c ∈ xs, c < 128) (hV : ∀ bs bp pr, R bs bp pr → V pr) (r : rS1 R c xs G bs bp s) : vSt V s := by
  obtain ⟨_, _, r3, _, r5, r6, r7⟩ := r
  refine ⟨r6, r7, rTx_cs hl hc r3, fun pr hpr => ?_⟩
  obtain ⟨b1, b2, k⟩ := rCh_mem _ _ _ r5 pr hpr
  exact hV b1 b2 pr k
theorem vPr_of {G : aT} (hl : xs.length ≤ 120) (hc : ∀ c ∈ xs, c < 128) : ∀ (N bs bp : Nat) (pr : qPr N), rP1 xs G N bs bp pr → vPr N pr := by
  intro N
  induction N with
  | zero => intro bs bp pr r; exact r.elim
  | succ N ih =>
    intro bs bp pr r
    obtain ⟨_, _, r3, r4, r5, r6, r7, r8⟩ := r
    refine ⟨r3, fun q => (r4 q).2, fun q => rTx_cs hl hc (r5 q), fun q => rTx_cs hl hc (r6 q), fun q => ?_⟩
    obtain ⟨_, _, q3, q4⟩ := r8 q
    refine ⟨q3, fun s hs => ?_⟩
    obtain ⟨b1, b2, k⟩ := rCh_mem _ _ _ q4 s hs
    exact vSt_of hl hc ih k
theorem q_top_v {pt : qPt 3} (hl : xs.length ≤ 120) (hc : ∀ c ∈ xs, c < 128) (e : q_top xs = .inr pt) : pt.2 ≠ [] ∧ ∀ s ∈ pt.2, vSt (vPr 3) s := by
  have b : md_buf ((fun _ => nI xs.length), (fun _ i => nI (xs.getD i 0)), (fun _ => 0)) xs := ⟨rfl, fun j hj => by rw [Nat.zero_add], hl, hc⟩
  obtain ⟨s, p1, p2, p3⟩ := rq_top b
  rw [e] at p3
  obtain ⟨_, q1, q2, _⟩ := p3
  refine ⟨q2, fun s hs => ?_⟩
  obtain ⟨b1, b2, k⟩ := rCh_mem _ _ _ q1 s hs
  exact vSt_of hl hc (vPr_of hl hc 3) k
/-- the found ones written -/
theorem cPCS.fnd (C : cPCS dA y h z mk n D m D2 xs rs ch bu bv sc sv fo a aM aO aE N B E J V ws) {rs2 : List Int32} {g2 : Nat → Int32} (S1 : cp_S h1 y bu sc a fo (nI rs2.length) ch) (F1 : h1 fo = some (.inl (dA 0, 40, .inl g2))) (G1 : ∀ j, j < rs2.length → g2 j = rs2.getD j 0) (M : hm_mo h h1 (fun b => b = y ∨ b = fo)) : cPCS dA y h1 z mk n D m D2 xs rs2 ch bu bv sc sv fo a aM aO aE N B E J V ws := by
  obtain ⟨S, jB, jS, ⟨g, jF, jG⟩, T, P, d, d2, r⟩ := C
  obtain ⟨mb, nb, fb, b1, b2, br⟩ := id jB
  obtain ⟨ms, ns, fs, s1, s2, sr⟩ := id jS
  have hY : ∀ b, (b = y ∨ b = fo) → cp_Q y bu bv sc sv fo a aM aO aE mk N b := fun b q => q.elim (fun q => Or.inr (Or.inl q)) (fun q => Or.inr (Or.inr (Or.inr (Or.inr (Or.inr (Or.inr q))))))
  refine ⟨S1, jB.mo M (fun q => q.elim (hm_ne b1 S rfl) (hm_ne b1 jF rfl)) (fun q => q.elim (hm_ne b2 S rfl) r.2.2.1), jS.mo M (fun q => q.elim (hm_ne s1 S rfl) (hm_ne s1 jF rfl)) (fun q => q.elim (hm_ne s2 S rfl) r.2.2.2), ⟨g2, F1, G1⟩, T.mo M (fun b hb q => ?_), P, d.mo M hz_mo.refl hY (fun b e _ k => k) (fun _ _ => rfl), d2.mo M hz_mo.refl hY (fun b e _ k => k) (fun _ _ => rfl), r⟩
  rcases q with q | q
  · subst q; exact cp_nX T S rfl rfl rfl hb
  · subst q; exact cp_nX T jF rfl rfl rfl hb
/-- behind a step that only made new cells -/
theorem cPCS.more (C : cPCS dA y h z mk n D m D2 xs rs ch bu bv sc sv fo a aM aO aE N B E J V ws) (M : hm_mo h h1 (fun _ => False)) (Mz : hz_mo z z1) : cPCS dA y h1 z1 mk n D m D2 xs rs ch bu bv sc sv fo a aM aO aE N B E J V ws := C.buf (C.2.1.mo M id id) (Or.inl rfl) (M.weak (fun _ q => q.elim)) Mz
def fL (D : Nat → nd) (S : Nat → Bool) (k : Nat) : List Int32 := ((List.range k).filter S).map (fun j => nI (D j).1)
theorem fL_len {S : Nat → Bool} {k : Nat} : (fL D S k).length ≤ k := by
  unfold fL
  rw [List.length_map]
  exact Nat.le_trans (List.length_filter_le _ _) (by rw [List.length_range]; exact Nat.le_refl _)
theorem fL_s {S : Nat → Bool} {k : Nat} : fL D S (k + 1) = fL D S k ++ (if S k = true then [nI (D k).1] else []) := by
  unfold fL
  rw [List.range_succ, List.filter_append, List.map_append]
  congr 1
  cases e : S k with
  | true => simp [e]
  | false => simp [e]
theorem pc_keepL {v : Int64} {S : Nat → Bool} (hS : bR v S) (hn : n ≤ 40) {K : hm_T → hz_T → Prop} : ∀ (r fu k : Nat) (h : hm_T), k + r = n → r < fu → cPCS dA y h z mk n D m D2 xs (fL D S k) ch bu bv sc sv fo a aM aO aE N B E J V ws → (∀ h1, cPCS dA y h1 z mk n D m D2 xs (fL D S n) ch bu bv sc sv fo a aM aO aE N B E J V ws → K h1 z) → w_Store_keepFound_7 dA y K fu v (nI k) h z := by
  intro r
  induction r with
  | zero =>
    intro fu k h hk hr C hK
    obtain ⟨fu, rfl⟩ : ∃ f, fu = f + 1 := ⟨fu - 1, by omega⟩
    obtain rfl : k = n := by omega
    obtain ⟨S0, jB, jS, ⟨g, jF, jG⟩, T, P, d, d2, r9⟩ := id C
    unfold w_Store_keepFound_7
    exact cg_R_ref S0 rfl (cg_d_of (cg_I_of T.1 rfl (if_yes (nI_le (Nat.le_refl _) (by omega)) (hK h C))))
  | succ r ih =>
    intro fu k h hk hr C hK
    obtain ⟨fu, rfl⟩ : ∃ f, fu = f + 1 := ⟨fu - 1, by omega⟩
    obtain ⟨S0, jB, jS, ⟨g, jF, jG⟩, T, P, d, d2, r9⟩ := id C
    have hkn : k < n := by omega
    obtain ⟨fO, hO, hfO⟩ := T.2.2.1
    have hle := fL_len (D := D) (S := S) (k := k)
    have es := fL_s (D := D) (S := S) (k := k)
    unfold w_Store_keepFound_7
    refine cg_R_ref S0 rfl (cg_d_of (cg_I_of T.1 rfl (if_no (nI_ge (by omega) (by omega)) (wk_has (by omega) ?_))))
    rw [hS.at (by omega)]
    unfold w_Store_keepFound_57
    cases e : S k with
    | false =>
      rw [e, if_neg (by decide), List.append_nil] at es
      refine if_yes rfl ?_
      rw [nI_1]
      exact ih fu (k + 1) h (by omega) (by omega) (by rw [es]; exact C) hK
    | true =>
      rw [e, if_pos rfl] at es
      have yf : y ≠ fo := hm_ne S0 jF rfl
      refine if_no (by decide) (cg_R_ref S0 rfl (cg_I_of S0 rfl (cg_R_ref S0 rfl (cg_d_of (cg_R_ref T.1 rfl (cg_d_of (cg_ar_of hO (by omega) (by omega) (hfO k hkn) (cg_d_of (cg_I_of (cp_nB T hkn) rfl (cg_d_of (cg_si_of jF (by omega) (by omega) ?_)))))))))))
      have S1 : cp_S (hm_u h fo (.inl (dA 0, 40, .inl (upd g (fL D S k).length (J (B k)).2.2.2.2.2)))) y bu sc a fo (nI (fL D S k).length) ch := by
        unfold cp_S
        rw [hm_n yf]
        exact S0
      refine cg_I_of S1 rfl (cg_p_of S1 (show 4 < 6 by decide) ?_)
      rw [nI_1, nI_1]
      refine ih fu (k + 1) _ (by omega) (by omega) ?_ hK
      rw [es]
      refine C.fnd (g2 := upd g (fL D S k).length (J (B k)).2.2.2.2.2) ?_ ?_ (fun j hj => ?_) ?_
      · unfold cp_S
        rw [len_snoc]
        exact hm_s
      · rw [hm_n (Ne.symm yf)]; exact hm_s
      · rw [len_snoc] at hj
        by_cases q : j = (fL D S k).length
        · subst q
          rw [getD_snoc]
          unfold upd
          rw [if_pos rfl, (d k hkn).2.2.2.1]
        · rw [getD_left (by omega)]
          unfold upd
          rw [if_neg q]
          exact jG j (by omega)
      · exact (hm_mo.u (Or.inr rfl)).trans (hm_mo.u (Or.inl rfl))
theorem pc_keep {v : Int64} {S : Nat → Bool} (hS : bR v S) (hn : n ≤ 40) (C : cPCS dA y h z mk n D m D2 xs rs ch bu bv sc sv fo a aM aO aE N B E J V ws) {K : hm_T → hz_T → Prop} (hK : ∀ h1, cPCS dA y h1 z mk n D m D2 xs (fL D S n) ch bu bv sc sv fo a aM aO aE N B E J V ws → K h1 z) : w_Store_keepFound dA y v K h z := by
  obtain ⟨S0, jB, jS, ⟨g, jF, jG⟩, T, P, d, d2, r9⟩ := id C
  unfold w_Store_keepFound
  refine cg_p_of S0 (show 4 < 6 by decide) (pc_keepL hS hn n mF 0 _ (by omega) (by unfold mF; omega) ?_ hK)
  refine C.fnd (g2 := g) hm_s ?_ (fun j hj => absurd hj (Nat.not_lt_zero _)) (hm_mo.u (Or.inl rfl))
  rw [hm_n (hm_ne jF S0 rfl)]
  exact jF
theorem pc_query (I : cPIC dA y h z mk n D m D2 xs rs ch) (ok : aX mk n D m D2 xs rs) {x : Int32} {c s : Nat} (hc : 13 * xs.length + 20 ≤ c) (hs : 859 * xs.length + 700 ≤ s) {K : Int32 → hm_T → hz_T → Prop} (k1 : ∀ v, a_query n D xs x = .inl v → ∀ h1 z1, cPIC dA y h1 z1 mk n D m D2 [] rs ch → K v h1 z1) (k2 : ∀ l, a_query n D xs x = .inr l → ∀ h1 z1, cPIC dA y h1 z1 mk n D m D2 [] l ch → K (nI l.length) h1 z1) : w_Store_query dA y x c s K h z := by
  obtain ⟨bu, bv, sc, sv, fo, a, aM, aO, aE, N, B, E, J, V, ws, C⟩ := I
  have C : cPCS dA y h z mk n D m D2 xs rs ch bu bv sc sv fo a aM aO aE N B E J V ws := C
  obtain ⟨S, jB, jS, jF, T, P, d, d2, r⟩ := id C
  have okk := ok.1
  have hl : xs.length ≤ 120 := okk.2.2.2.1
  have hch : ∀ c ∈ xs, c < 128 := fun c hc => by have := okk.2.2.2.2.1 c hc; omega
  have hn := okk.1.1
  unfold w_Store_query
  refine cg_c_of S (cg_rm_of (c1 := 3) (s1 := 288) (by omega) (by omega) (cp_useBuffer S jB (Nat.le_refl _) (Nat.le_refl _) (fun t h1 z1 ⟨u, e1⟩ jB1 M Mz => ?_)))
  have C1 := C.buf jB1 (Or.inl rfl) (M.weak (fun b q => Or.inl q)) Mz
  obtain ⟨S1, _, _, _, T1, P1, d1, _, _⟩ := id C1
  refine cg_R_ref S1 rfl (cg_d_of (cg_c_of T1.1 ?_))
  cases e : a_at n D x with
  | none => exact cp_find_none T1 P1 (cp_nn T1 P1 d1 (a_at_none e)) (if_yes rfl (k1 _ (by unfold a_query; rw [e]) h1 z1 C1.pic))
  | some k =>
    obtain ⟨hk, ex⟩ := a_at_some e
    have o := okk.1.2 k hk
    rw [ex]
    refine cp_find_some T1 P1 hk o.1 (cp_nu T1 P1 d1 okk.1 okk.2.2.1 hk) (if_no (by simp) (cg_new_of (by omega) (by omega) (fun q hq => ?_)))
    refine cg_c_of hm_s (cg_rm_0 ?_)
    unfold w_PathReader_init w_TextReader_init10
    refine cg_c_of hm_s (cg_p_of hm_s (show 0 < 3 by decide) (cg_p_of hm_s (show 1 < 3 by decide) (cg_p_of hm_s (show 2 < 3 by decide) ?_)))
    generalize eh3 : (hm_u (hm_u (hm_u (hm_u h1 q _) q _) q _) q _ : hm_T) = h3
    have Y3 : h3 q = some (r10 t 0 (-1)) := by rw [← eh3]; exact hm_s
    have M3 : hm_mo h1 h3 (fun b => b = q) := by
      rw [← eh3]
      exact (((hm_mo.u (Y := fun b => b = q) rfl).trans (hm_mo.u rfl)).trans (hm_mo.u rfl)).trans (hm_mo.u rfl)
    have N3 : ∀ b e, h1 b = some e → h3 b = some e := fun b e hb => M3 b e hb (fun w => by rw [w, hq] at hb; cases hb)
    refine cg_c_of Y3 (cg_rm_of (c1 := 13 * xs.length + 7) (s1 := 859 * xs.length + 359) (by omega) (by omega) (ro_whole Y3 ⟨⟨u, e1⟩, hl, hch⟩ (Nat.le_refl _) (Nat.le_refl _) (fun pt et h4 z4 v L Y4 tp nn M4 Z4 => ?_) (fun e9 et he h4 z4 v p1 Y4 M4 Z4 => ?_)))
    · have M14 : hm_mo h1 h4 (fun _ => False) := fun b e hb _ => M4 b e (N3 b e hb) (fun w => by rw [w, hq] at hb; cases hb)
      refine cg_c_of Y4 (ro_failed0 Y4 (if_yes rfl (cg_new_of (by omega) (by omega) (fun q2 hq2 => ?_))))
      have C4 := C1.more M14 Z4
      have S4 := C4.1
      have yq2 : y ≠ q2 := fun w => by unfold cp_S at S4; rw [w, hq2] at S4; cases S4
      refine cg_R_ref (show (hm_u h4 q2 _ : hm_T) y = _ by rw [hm_n yq2]; exact S4) rfl (cg_c_of hm_s ?_)
      unfold w_Walker_init
      refine cg_p_of hm_s (show 0 < 1 by decide) ?_
      generalize eh6 : (hm_u (hm_u h4 q2 _) q2 _ : hm_T) = h6
      have W6 : h6 q2 = some (.inr (14, [.ref a])) := by rw [← eh6]; exact hm_s
      have M46 : hm_mo h4 h6 (fun _ => False) := fun b e hb _ => by
        have nb : b ≠ q2 := fun w => by rw [w, hq2] at hb; cases hb
        rw [← eh6, hm_n nb, hm_n nb]
        exact hb
      have C6 := C4.more M46 hz_mo.refl
      obtain ⟨S6, _, _, _, T6, P6, d6, _, _⟩ := id C6
      have G6 : wk dA h6 z4 q2 a n B D := ⟨aM, aO, aE, mk, m, N, E, J, V, _, W6, T6, P6, d6, okk.1, okk.2.2.2.2.2.2.2.2.1, ok.2.1.2.2⟩
      obtain ⟨hne, vs⟩ := q_top_v hl hch et
      have tp6 : tP dA h6 z4 (fun b => h3 b = none) kf0 (pP dA h6 z4 (fun b => h3 b = none) kf0 hf0 3) L v pt := tP.mo M46 hz_mo.refl (fun b e _ f => f) (fun b _ w => w.elim) (pP.mo M46 hz_mo.refl (fun b e _ f => f) (fun b _ w => w.elim) 3) L v pt (fun b _ _ w => w) tp
      have allL := tP.all (pP.all 3) tp6
      refine cg_c_of W6 (cg_rm_0 ?_)
      unfold w_T_Walker_prepare
      refine wk_prF (by omega) 3 8 (by decide) h6 L v pt 0 0 _ G6 tp6 vs nn (fun h7 G7 tp7 M7 => ?_)
      have M17 : hm_mo h1 h7 (fun _ => False) := fun b e hb _ => M7 b e (M46 b e (M14 b e hb id) id) (fun w => by
        have := (allL b w).1
        rw [N3 b e hb] at this
        cases this)
      have C7 := C1.more M17 Z4
      obtain ⟨fs, tt, u2, c1, c2, c3, c4, c5, c6⟩ := G7.cell hk
      refine cg_d_of (cg_I_of c1 c4 (cg_c_of G7.W (wk_goFrom G7 tp7 vs hne hk (fun m2 hm2 => cg_c_of C7.1 (pc_keep hm2 hn C7 (fun h8 C8 => cg_I_of C8.1 rfl ?_))))))
      refine k2 _ ?_ h8 z4 C8.pic
      unfold a_query
      rw [e]
      simp only []
      rw [et]
      rfl
    · have M14 : hm_mo h1 h4 (fun _ => False) := fun b e hb _ => M4 b e (N3 b e hb) (fun w => by rw [w, hq] at hb; cases hb)
      have C4 := C1.more M14 Z4
      refine cg_c_of Y4 (ro_failed1 Y4 (by omega) (if_no (by decide) (cg_I_of Y4 rfl (k1 _ ?_ h4 z4 C4.pic))))
      unfold a_query
      rw [e]
      simp only []
      rw [et]
end QV9
-- frames: the class's heap h, and beside it further cells g that it doesn't know
def hJ (g h : hm_T) : hm_T := fun b => match h b with
  | some e => some e
  | none => g b
def dj (g h : hm_T) : Prop := ∀ (b : Nat) (e : va_E), g b = some e → h b = none
section QW1
variable {g h h1 : hm_T} {z z1 : hz_T} {dA : Nat → ClassId}
theorem hJ_s {b : Nat} {e : va_E} (c : h b = some e) : hJ g h b = some e := by unfold hJ; rw [c]
theorem hJ_n {b : Nat} (c : h b = none) : hJ g h b = g b := by unfold hJ; rw [c]
theorem hJ_0 {b : Nat} (c : hJ g h b = none) : h b = none ∧ g b = none := by
  cases e : h b with
  | some x => rw [hJ_s e] at c; cases c
  | none => rw [hJ_n e] at c; exact ⟨rfl, c⟩
theorem dj.g0 (d : dj g h) {b : Nat} {e : va_E} (c : h b = some e) : g b = none := by
  cases k : g b with
  | none => rfl
  | some x => rw [d b x k] at c; cases c
theorem hJ_u {a : Nat} {e : va_E} : hm_u (hJ g h) a e = hJ g (hm_u h a e) := by
  funext b
  by_cases q : b = a
  · subst q
    rw [hm_s, hJ_s hm_s]
  · rw [hm_n q]
    unfold hJ
    rw [hm_n q]
theorem dj.u (d : dj g h) {a : Nat} {e : va_E} (c : g a = none) : dj g (hm_u h a e) := fun b x hb => by
  by_cases q : b = a
  · subst q; rw [c] at hb; cases hb
  · rw [hm_n q]; exact d b x hb
theorem fr_ite {c : Prop} [Decidable c] {A B A2 B2 : Prop} (hw : if c then A else B) (k1 : A → A2) (k2 : B → B2) : if c then A2 else B2 := by
  by_cases q : c
  · rw [if_pos q] at hw ⊢; exact k1 hw
  · rw [if_neg q] at hw ⊢; exact k2 hw
theorem cg_d_fr {o : Option Nat} {K K2 : Nat → Prop} (hw : cg_d o K) (k : ∀ a, K a → K2 a) : cg_d o K2 := by
  obtain ⟨a, e, q⟩ := hw
  exact ⟨a, e, k a q⟩
theorem cg_I_fr {ci k0 a : Nat} {K K2 : Int32 → Prop} (_ : dj g h) (hw : cg_I h ci k0 a K) (k : ∀ v, K v → K2 v) : cg_I (hJ g h) ci k0 a K2 := by
  obtain ⟨fs, x, c, e, q⟩ := hw
  exact ⟨fs, x, hJ_s c, e, k x q⟩
theorem cg_L_fr {ci k0 a : Nat} {K K2 : Int64 → Prop} (_ : dj g h) (hw : cg_L h ci k0 a K) (k : ∀ v, K v → K2 v) : cg_L (hJ g h) ci k0 a K2 := by
  obtain ⟨fs, x, c, e, q⟩ := hw
  exact ⟨fs, x, hJ_s c, e, k x q⟩
theorem cg_R_fr {ci k0 a : Nat} {K K2 : Option Nat → Prop} (_ : dj g h) (hw : cg_R h ci k0 a K) (k : ∀ v, K v → K2 v) : cg_R (hJ g h) ci k0 a K2 := by
  obtain ⟨fs, x, c, e, q⟩ := hw
  exact ⟨fs, x, hJ_s c, e, k x q⟩
theorem cg_c_fr {ci a : Nat} {K K2 : Prop} (_ : dj g h) (hw : cg_c h ci a K) (k : K → K2) : cg_c (hJ g h) ci a K2 := by
  obtain ⟨fs, c, q⟩ := hw
  exact ⟨fs, hJ_s c, k q⟩
theorem cg_oa_fr {a : Nat} {K K2 : Prop} (_ : dj g h) (hw : cg_oa dA h a K) (k : K → K2) : cg_oa dA (hJ g h) a K2 := by
  obtain ⟨n, f, c, q⟩ := hw
  exact ⟨n, f, hJ_s c, k q⟩
theorem cg_ai_fr {t a : Nat} {i : Int32} {K K2 : Int32 → Prop} (_ : dj g h) (hw : cg_ai dA h t a i K) (k : ∀ v, K v → K2 v) : cg_ai dA (hJ g h) t a i K2 := by
  obtain ⟨n, f, c, e, q⟩ := hw
  exact ⟨n, f, hJ_s c, e, k _ q⟩
theorem cg_ar_fr {t a : Nat} {i : Int32} {K K2 : Option Nat → Prop} (_ : dj g h) (hw : cg_ar dA h t a i K) (k : ∀ v, K v → K2 v) : cg_ar dA (hJ g h) t a i K2 := by
  obtain ⟨n, f, c, e, q⟩ := hw
  exact ⟨n, f, hJ_s c, e, k _ q⟩
theorem cg_al_fr {t a : Nat} {K K2 : Int32 → Prop} (_ : dj g h) (hw : cg_al dA h t a K) (k : ∀ v, K v → K2 v) : cg_al dA (hJ g h) t a K2 := by
  obtain ⟨n, f, c, q⟩ := hw
  exact ⟨n, f, hJ_s c, k _ q⟩
theorem cg_alo_fr {a : Nat} {K K2 : Int32 → Prop} (_ : dj g h) (hw : cg_alo dA h a K) (k : ∀ v, K v → K2 v) : cg_alo dA (hJ g h) a K2 := by
  obtain ⟨v, c, q⟩ := hw
  refine ⟨v, ?_, k _ q⟩
  rcases c with ⟨n, f, c, e⟩ | c
  · exact Or.inl ⟨n, f, hJ_s c, e⟩
  · exact Or.inr c
theorem jd_sz_fr {a : Nat} {K K2 : Int32 → Prop} (_ : dj g h) (hw : jd_sz h a K) (k : ∀ v, K v → K2 v) : jd_sz (hJ g h) a K2 := by
  obtain ⟨d, n, mo, c, q⟩ := hw
  exact ⟨d, n, mo, hJ_s c, k _ q⟩
theorem jd_no_fr {a : Nat} {K K2 : Int32 → Prop} (_ : dj g h) (hw : jd_no h a K) (k : ∀ v, K v → K2 v) : jd_no (hJ g h) a K2 := by
  obtain ⟨d, n, mo, c, e, q⟩ := hw
  exact ⟨d, n, mo, hJ_s c, e, k _ q⟩
theorem jd_get_fr {a : Nat} {i : Int32} {K K2 : Nat → Prop} (_ : dj g h) (hw : jd_get dA h a i K) (k : ∀ v, K v → K2 v) : jd_get dA (hJ g h) a i K2 := by
  obtain ⟨d, n, mo, m, j, q, f, c1, c2, e1, e2, e3, e4, e5, e6⟩ := hw
  exact ⟨d, n, mo, m, j, q, f, hJ_s c1, hJ_s c2, e1, e2, e3, e4, e5, k _ e6⟩
theorem jo_fr {v : Nat} (hw : jo h v) : jo (hJ g h) v := by
  obtain ⟨ci, fs, c, e⟩ := hw
  exact ⟨ci, fs, hJ_s c, e⟩
theorem cg_p_fr {ci k0 a : Nat} {v : Value} {K K2 : hm_T → Prop} (d : dj g h) (hw : cg_p h ci k0 a v K) (k : ∀ h1, dj g h1 → K h1 → K2 (hJ g h1)) : cg_p (hJ g h) ci k0 a v K2 := by
  obtain ⟨fs, c, e, q⟩ := hw
  refine ⟨fs, hJ_s c, e, ?_⟩
  rw [hJ_u]
  exact k _ (d.u (d.g0 c)) q
theorem cg_si_fr {t a : Nat} {i x : Int32} {K K2 : hm_T → Prop} (d : dj g h) (hw : cg_si dA h t a i x K) (k : ∀ h1, dj g h1 → K h1 → K2 (hJ g h1)) : cg_si dA (hJ g h) t a i x K2 := by
  obtain ⟨n, f, c, e, q⟩ := hw
  refine ⟨n, f, hJ_s c, e, ?_⟩
  rw [hJ_u]
  exact k _ (d.u (d.g0 c)) q
theorem cg_sr_fr {t a : Nat} {i : Int32} {v : Nat} {K K2 : hm_T → Prop} (d : dj g h) (hw : cg_sr dA h t a i v K) (k : ∀ h1, dj g h1 → K h1 → K2 (hJ g h1)) : cg_sr dA (hJ g h) t a i v K2 := by
  obtain ⟨n, f, c, e, q⟩ := hw
  refine ⟨n, f, hJ_s c, e, ?_⟩
  rw [hJ_u]
  exact k _ (d.u (d.g0 c)) q
theorem cg_sro_fr {a : Nat} {i : Int32} {v : Nat} {K K2 : hm_T → Prop} (d : dj g h) (hw : cg_sro dA h a i v K) (k : ∀ h1, dj g h1 → K h1 → K2 (hJ g h1)) : cg_sro dA (hJ g h) a i v K2 := by
  obtain ⟨j, n, f, c, e, q⟩ := hw
  refine ⟨jo_fr j, n, f, hJ_s c, e, ?_⟩
  rw [hJ_u]
  exact k _ (d.u (d.g0 c)) q
theorem cg_cpi_fr {a b : Nat} {n : Int32} {K K2 : hm_T → Prop} (d : dj g h) (hw : cg_cpi dA h a b n K) (k : ∀ h1, dj g h1 → K h1 → K2 (hJ g h1)) : cg_cpi dA (hJ g h) a b n K2 := by
  obtain ⟨N, m1, m2, f, f2, e1, c1, c2, e2, e3, e4, e5, q⟩ := hw
  refine ⟨N, m1, m2, f, f2, e1, hJ_s c1, hJ_s c2, e2, e3, e4, e5, ?_⟩
  rw [hJ_u]
  exact k _ (d.u (d.g0 c2)) q
theorem cg_cpq_fr {a b : Nat} {n : Int32} {K K2 : hm_T → Prop} (d : dj g h) (hw : cg_cpq dA h a b n K) (k : ∀ h1, dj g h1 → K h1 → K2 (hJ g h1)) : cg_cpq dA (hJ g h) a b n K2 := by
  obtain ⟨N, m1, m2, f, f2, e1, c1, c2, e2, e3, e4, e5, e6, q⟩ := hw
  refine ⟨N, m1, m2, f, f2, e1, hJ_s c1, hJ_s c2, e2, e3, e4, e5, fun i hi y hy => jo_fr (e6 i hi y hy), ?_⟩
  rw [hJ_u]
  exact k _ (d.u (d.g0 c2)) q
theorem cg_new_fr {c s ci N : Nat} {fs : List Value} {K K2 : Nat → Nat → Nat → hm_T → Prop} (d : dj g h) (hw : cg_new h c s ci N fs K) (k : ∀ q c2 s2 h1, dj g h1 → K q c2 s2 h1 → K2 q c2 s2 (hJ g h1)) : cg_new (hJ g h) c s ci N fs K2 := by
  obtain ⟨c2, s2, e1, e2, q⟩ := hw
  refine ⟨c2, s2, e1, e2, fun a ha => ?_⟩
  obtain ⟨a1, a2⟩ := hJ_0 ha
  rw [hJ_u]
  exact k _ _ _ _ (d.u a2) (q a a1)
theorem cg_na_fr {c s t : Nat} {n : Int32} {K K2 : Nat → Nat → Nat → hm_T → Prop} (d : dj g h) (hw : cg_na dA h c s t n K) (k : ∀ q c2 s2 h1, dj g h1 → K q c2 s2 h1 → K2 q c2 s2 (hJ g h1)) : cg_na dA (hJ g h) c s t n K2 := by
  obtain ⟨N, c2, s2, e1, e2, e3, e4, q⟩ := hw
  refine ⟨N, c2, s2, e1, e2, e3, e4, fun a ha => ?_⟩
  obtain ⟨a1, a2⟩ := hJ_0 ha
  rw [hJ_u]
  exact k _ _ _ _ (d.u a2) (q a a1)
theorem cg_nq_fr {c s t : Nat} {n : Int32} {K K2 : Nat → Nat → Nat → hm_T → Prop} (d : dj g h) (hw : cg_nq dA h c s t n K) (k : ∀ q c2 s2 h1, dj g h1 → K q c2 s2 h1 → K2 q c2 s2 (hJ g h1)) : cg_nq dA (hJ g h) c s t n K2 := by
  obtain ⟨N, c2, s2, e1, e2, e3, e4, q⟩ := hw
  refine ⟨N, c2, s2, e1, e2, e3, e4, fun a ha => ?_⟩
  obtain ⟨a1, a2⟩ := hJ_0 ha
  rw [hJ_u]
  exact k _ _ _ _ (d.u a2) (q a a1)
theorem cg_lit_fr {xs : List Nat} {K K2 : Nat → Prop} (hw : cg_lit z xs K) (k : ∀ a, K a → K2 a) : cg_lit z xs K2 := fun a u e => k a (hw a u e)
theorem cg_lt_fr {α : Type} {x : α} {K K2 : α → Prop} (hw : cg_lt x K) (k : ∀ a, K a → K2 a) : cg_lt x K2 := by
  obtain ⟨v, e, q⟩ := hw
  exact ⟨v, e, k v q⟩
theorem jd_len_fr {t : Nat} {K K2 : Int32 → Prop} (hw : jd_len z t K) (k : ∀ v, K v → K2 v) : jd_len z t K2 := by
  obtain ⟨u, xs, c, q⟩ := hw
  exact ⟨u, xs, c, k _ q⟩
theorem jd_emp_fr {t : Nat} {K K2 : Int32 → Prop} (hw : jd_emp z t K) (k : ∀ v, K v → K2 v) : jd_emp z t K2 := by
  obtain ⟨u, xs, c, e, q⟩ := hw
  exact ⟨u, xs, c, e, k _ q⟩
theorem jd_at_fr {t : Nat} {i : Int32} {K K2 : Int32 → Prop} (hw : jd_at z t i K) (k : ∀ v, K v → K2 v) : jd_at z t i K2 := by
  obtain ⟨u, xs, j, c, e1, e2, e3, e4, q⟩ := hw
  exact ⟨u, xs, j, c, e1, e2, e3, e4, k _ q⟩
theorem jd_idx_fr {t : Nat} {i : Int32} {K K2 : Int32 → Prop} (hw : jd_idx z t i K) (k : ∀ v, K v → K2 v) : jd_idx z t i K2 := by
  obtain ⟨u, xs, j, c, e1, e2, e3, e4, q⟩ := hw
  exact ⟨u, xs, j, c, e1, e2, e3, e4, k _ q⟩
theorem jd_eq_fr {t t2 : Nat} {K K2 : Int32 → Prop} (hw : jd_eq z t t2 K) (k : ∀ v, K v → K2 v) : jd_eq z t t2 K2 := by
  obtain ⟨u, xs, u2, ys, c, c2, e1, e2, e3, e4, q⟩ := hw
  exact ⟨u, xs, u2, ys, c, c2, e1, e2, e3, e4, k _ q⟩
theorem cg_k_fr {c s mc ms : Nat} {K K2 : Nat → Nat → Prop} (hw : cg_k c s mc ms K) (k : ∀ a b, K a b → K2 a b) : cg_k c s mc ms K2 := by
  obtain ⟨c2, s2, e1, e2, q⟩ := hw
  exact ⟨c2, s2, e1, e2, k _ _ q⟩
theorem cg_rm_fr {c s : Nat} {K K2 : Nat → Nat → Nat → Nat → Prop} (hw : cg_rm c s K) (k : ∀ a b c d, K a b c d → K2 a b c d) : cg_rm c s K2 := by
  obtain ⟨c1, s1, c2, s2, e1, e2, q⟩ := hw
  exact ⟨c1, s1, c2, s2, e1, e2, k _ _ _ _ q⟩
theorem cg_z_fr {v : Int32} {K K2 : Prop} (hw : cg_z v K) (k : K → K2) : cg_z v K2 := ⟨hw.1, k hw.2⟩
theorem cg_ch_fr {v : Int32} {K K2 : Prop} (hw : cg_ch v K) (k : K → K2) : cg_ch v K2 := ⟨hw.1, k hw.2⟩
/-- a heap that holds g's cells as they were is one beside g -/
def hX (g h : hm_T) : hm_T := fun b => match g b with
  | some _ => none
  | none => h b
theorem hX_n {b : Nat} (c : g b = none) : hX g h b = h b := by unfold hX; rw [c]
theorem hX_J (k : ∀ b e, g b = some e → h b = some e) : hJ g (hX g h) = h := by
  funext b
  unfold hJ hX
  cases e : g b with
  | some x => rw [k b x e]
  | none =>
    cases h b with
    | some y => rfl
    | none => rfl
theorem hX_d : dj g (hX g h) := fun b e c => by unfold hX; rw [c]
theorem jb_fr {a v : Nat} {xs : List Nat} (j : jb dA h a v xs) : jb dA (hJ g h) a v xs := by
  obtain ⟨mb, n, f, c1, c2, r⟩ := j
  exact ⟨mb, n, f, hJ_s c1, hJ_s c2, r⟩
theorem jb_X {a v : Nat} {xs : List Nat} (j : jb dA h a v xs) (ha : g a = none) (hv : g v = none) : jb dA (hX g h) a v xs := by
  obtain ⟨mb, n, f, c1, c2, r⟩ := j
  exact ⟨mb, n, f, by rw [hX_n ha]; exact c1, by rw [hX_n hv]; exact c2, r⟩
theorem dj.jb (d : dj g h) {a v : Nat} {xs : List Nat} (j : jb dA h a v xs) : g a = none ∧ g v = none := by
  obtain ⟨mb, n, f, c1, c2, r⟩ := j
  exact ⟨d.g0 c1, d.g0 c2⟩
theorem fr_SB_set {a : Nat} {i : Int32} {K Kq : hm_T → hz_T → Prop} (d : dj g h) (hw : w_SB_set dA a i K h z) (hK : ∀ (h : hm_T) (z : hz_T), dj g h → K h z → Kq (hJ g h) z) : w_SB_set dA a i Kq (hJ g h) z := by
  obtain ⟨v, xs, j, e, q⟩ := hw
  obtain ⟨ga, gv⟩ := d.jb j
  refine ⟨v, xs, jb_fr j, e, fun h1 j1 k => ?_⟩
  have e1 : hJ g (hX g h1) = h1 := hX_J (fun b e c => k b e (by rw [hJ_n (d b e c)]; exact c) (fun w => by rw [w, ga] at c; cases c))
  rw [← e1]
  exact hK _ _ hX_d (q _ (jb_X j1 ga gv) (fun b e c n => by rw [hX_n (d.g0 c)]; exact k b e (hJ_s c) n))
theorem fr_SB_app {a : Nat} {x : Int32} {K Kq : Option Nat → hm_T → hz_T → Prop} (d : dj g h) (hw : w_SB_app dA a x K h z) (hK : ∀ (v : Option Nat) (h : hm_T) (z : hz_T), dj g h → K v h z → Kq v (hJ g h) z) : w_SB_app dA a x Kq (hJ g h) z := by
  obtain ⟨v, xs, q0, j, l1, l2, l3, q⟩ := hw
  obtain ⟨ga, gv⟩ := d.jb j
  refine ⟨v, xs, q0, jb_fr j, l1, l2, l3, fun h1 u j1 hu k => ?_⟩
  have gu : g u = none := hu.elim (fun w => by rw [w]; exact gv) (fun w => (hJ_0 w).2)
  have e1 : hJ g (hX g h1) = h1 := hX_J (fun b e c => k b e (by rw [hJ_n (d b e c)]; exact c) (fun w => by rw [w, ga] at c; cases c) (fun w => by rw [w, gv] at c; cases c))
  rw [← e1]
  exact hK _ _ _ hX_d (q _ u (jb_X j1 ga gu) (hu.imp id (fun w => (hJ_0 w).1)) (fun b e c n n2 => by rw [hX_n (d.g0 c)]; exact k b e (hJ_s c) n n2))
theorem fr_SB_apS {a : Nat} {t : Option Nat} {K Kq : Option Nat → hm_T → hz_T → Prop} (d : dj g h) (hw : w_SB_apS dA a t K h z) (hK : ∀ (v : Option Nat) (h : hm_T) (z : hz_T), dj g h → K v h z → Kq v (hJ g h) z) : w_SB_apS dA a t Kq (hJ g h) z := by
  obtain ⟨t1, v, xs, w, ys, e0, j, l1, l2, l3, q⟩ := hw
  obtain ⟨ga, gv⟩ := d.jb j
  refine ⟨t1, v, xs, w, ys, e0, jb_fr j, l1, l2, l3, fun h1 u j1 hu k => ?_⟩
  have gu : g u = none := hu.elim (fun w => by rw [w]; exact gv) (fun w => (hJ_0 w).2)
  have e1 : hJ g (hX g h1) = h1 := hX_J (fun b e c => k b e (by rw [hJ_n (d b e c)]; exact c) (fun w => by rw [w, ga] at c; cases c) (fun w => by rw [w, gv] at c; cases c))
  rw [← e1]
  exact hK _ _ _ hX_d (q _ u (jb_X j1 ga gu) (hu.imp id (fun w => (hJ_0 w).1)) (fun b e c n n2 => by rw [hX_n (d.g0 c)]; exact k b e (hJ_s c) n n2))
theorem fr_SB_str {a : Nat} {K Kq : Option Nat → hm_T → hz_T → Prop} (d : dj g h) (hw : w_SB_str dA a K h z) (hK : ∀ (v : Option Nat) (h : hm_T) (z : hz_T), dj g h → K v h z → Kq v (hJ g h) z) : w_SB_str dA a Kq (hJ g h) z := by
  obtain ⟨v, xs, j, q⟩ := hw
  refine ⟨v, xs, jb_fr j, fun h1 z1 t u c1 k k2 => ?_⟩
  have e1 : hJ g (hX g h1) = h1 := hX_J (fun b e c => k b e (by rw [hJ_n (d b e c)]; exact c))
  rw [← e1]
  exact hK _ _ _ hX_d (q _ z1 t u c1 (fun b e c => by rw [hX_n (d.g0 c)]; exact k b e (hJ_s c)) k2)
theorem fr_S_sub {t : Nat} {i j : Int32} {K Kq : Option Nat → hm_T → hz_T → Prop} (d : dj g h) (hw : w_S_sub dA t i j K h z) (hK : ∀ (v : Option Nat) (h : hm_T) (z : hz_T), dj g h → K v h z → Kq v (hJ g h) z) : w_S_sub dA t i j Kq (hJ g h) z := by
  obtain ⟨w, xs, a, b, e1, e2, e3, e4, e5, e6, e7, q⟩ := hw
  refine ⟨w, xs, a, b, e1, e2, e3, e4, e5, e6, e7, fun h1 z1 t u c1 k k2 => ?_⟩
  have e9 : hJ g (hX g h1) = h1 := hX_J (fun b e c => k b e (by rw [hJ_n (d b e c)]; exact c))
  rw [← e9]
  exact hK _ _ _ hX_d (q _ z1 t u c1 (fun b e c => by rw [hX_n (d.g0 c)]; exact k b e (hJ_s c)) k2)
end QW1
