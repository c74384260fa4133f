-- the two objects at their start, and beside each other
def hE0 : hm_T := fun _ => none
def st00 : mT := (fun _ => 0, fun _ _ => 0, fun _ => 0)
def as0 : aS := (0, 0, fun _ => (0, 0, none, [], [], []), 0, fun _ => (0, 0, none, [], [], []), [], [], 0)
section QY2
variable {dA : Nat → ClassId} {hc h h1 : hm_T} {z : hz_T} {r9 y : Nat} {M : Nat → Nat} {st st2 : mT} {a a2 : aS}
theorem mm_n {b : Nat} (e : mm_h dA hE0 r9 M st b = none) : b ≠ r9 ∧ mm_A.find? (fun k => M k == b) = none := by
  unfold mm_h at e
  by_cases q : b = r9
  · rw [if_pos q] at e; cases e
  · rw [if_neg q] at e
    refine ⟨q, ?_⟩
    cases k : mm_A.find? (fun k => M k == b) with
    | none => rfl
    | some x => rw [k] at e; cases e
theorem mm_o0 {b : Nat} (n : b ≠ r9) (f : mm_A.find? (fun k => M k == b) = none) : mm_h dA h r9 M st b = h b := by
  unfold mm_h
  rw [if_neg n, f]
theorem mm_s {b : Nat} {e : va_E} (c : mm_h dA hE0 r9 M st b = some e) : mm_h dA h r9 M st b = some e := by
  unfold mm_h at c ⊢
  by_cases q : b = r9
  · rw [if_pos q] at c ⊢; exact c
  · rw [if_neg q] at c ⊢
    cases k : mm_A.find? (fun k => M k == b) with
    | none => rw [k] at c; cases c
    | some x => rw [k] at c; exact c
theorem mm_Jn (d : dj (mm_h dA hE0 r9 M st) hc) : hJ (mm_h dA hE0 r9 M st) hc = mm_h dA hc r9 M st := by
  funext b
  cases k : mm_h dA hE0 r9 M st b with
  | some e => rw [hJ_n (d b e k), k, mm_s k]
  | none =>
    obtain ⟨n, f⟩ := mm_n k
    rw [mm_o0 n f]
    unfold hJ
    cases hc b with
    | some x => rfl
    | none => exact k
theorem dj_st (d : dj (mm_h dA hE0 r9 M st) hc) : dj (mm_h dA hE0 r9 M st2) hc := fun b e hb => by
  cases k : mm_h dA hE0 r9 M st b with
  | some x => exact d b x k
  | none =>
    obtain ⟨n, f⟩ := mm_n k
    rw [mm_o0 n f] at hb
    cases hb
theorem law_y (d : dj (mm_h dA hE0 r9 M st) hc) (C : cI dA y hc z a) : ∃ fs, mm_h dA hc r9 M st y = some (.inr (0, fs)) := by
  obtain ⟨bu, bv, sc, sv, fo, a, aM, aO, aE, N, B, E, J, V, ws, S, _⟩ := C
  rw [← mm_Jn d]
  exact ⟨_, hJ_s S⟩
theorem law_w {wc : (Int32 → hm_T → hz_T → Prop) → hm_T → hz_T → Prop} {v : Int32} (fr : ∀ {K Kq : Int32 → hm_T → hz_T → Prop} {h : hm_T} {z : hz_T}, dj (mm_h dA hE0 r9 M st) h → wc K h z → (∀ (v : Int32) (h : hm_T) (z : hz_T), dj (mm_h dA hE0 r9 M st) h → K v h z → Kq v (hJ (mm_h dA hE0 r9 M st) h) z) → wc Kq (hJ (mm_h dA hE0 r9 M st) h) z) (d : dj (mm_h dA hE0 r9 M st) hc) (kc : ∀ K : Int32 → hm_T → hz_T → Prop, (∀ h1 z1, cI dA y h1 z1 a2 → aO a2 → K v h1 z1) → wc K hc z) : wc (fun v9 hT z1 => ∃ hc2, hT = mm_h dA hc2 r9 M st ∧ dj (mm_h dA hE0 r9 M st) hc2 ∧ v = v9 ∧ cI dA y hc2 z1 a2 ∧ aO a2) (mm_h dA hc r9 M st) z := by
  have := fr d (kc (fun v9 h1 z1 => v = v9 ∧ cI dA y h1 z1 a2 ∧ aO a2) (fun h1 z1 c o => ⟨rfl, c, o⟩)) (Kq := fun v9 hT z1 => ∃ hc2, hT = mm_h dA hc2 r9 M st ∧ dj (mm_h dA hE0 r9 M st) hc2 ∧ v = v9 ∧ cI dA y hc2 z1 a2 ∧ aO a2) (fun v9 h1 z1 d1 k => ⟨h1, mm_Jn d1, d1, k⟩)
  rw [mm_Jn d] at this
  exact this
theorem hm_I.sub {D : va_G} {s0 s : State} {H : Heap} {locs : List Loc} (I : hm_I D s0 s h z H locs) (k : ∀ b e, h1 b = some e → h b = some e) : hm_I D s0 s h1 z H locs := by
  have kn : ∀ b, h b = none → h1 b = none := fun b e => by
    cases c : h1 b with
    | none => rfl
    | some x => rw [k b x c] at e; cases e
  exact ⟨fun a e c => I.1 a e (k a e c), fun a e c => I.2.1 a e (k a e c), I.2.2.1, fun a u xs hx => ⟨(I.2.2.2.1 a u xs hx).1, kn _ (I.2.2.2.1 a u xs hx).2.1, kn _ (I.2.2.2.1 a u xs hx).2.2⟩, I.2.2.2.2⟩
theorem idx_get : ∀ k ∈ mm_A, mm_A[mm_A.idxOf k]? = some k := by decide +kernel
theorem mm_born {q3 : Nat} {e0 : va_E} (hq : hc q3 = none) (eo : ∀ b, b ≠ q3 → h b = hc b) (A : hm_aft h [(q3, e0)] ((q3, .inr (2, mm_o M st00)) :: mm_A.map (fun k => (M k, mm_e dA st00 k))) h1) : mm_ok q3 M ∧ dj (mm_h dA hE0 q3 M st00) hc ∧ ∀ b e, mm_h dA hc q3 M st00 b = some e → h1 b = some e := by
  obtain ⟨A1, A2, A3⟩ := A
  have gi : ∀ k ∈ mm_A, ((q3, .inr (2, mm_o M st00)) :: mm_A.map (fun k => (M k, mm_e dA st00 k)) : va_W)[mm_A.idxOf k + 1]? = some (M k, mm_e dA st00 k) := fun k hk => by
    rw [List.getElem?_cons_succ, List.getElem?_map, idx_get k hk]
    rfl
  have g0 : ((q3, .inr (2, mm_o M st00)) :: mm_A.map (fun k => (M k, mm_e dA st00 k)) : va_W)[0]? = some (q3, .inr (2, mm_o M st00)) := rfl
  have o1 : ∀ k ∈ mm_A, M k ≠ q3 := fun k hk w => by
    have := A2 _ _ _ _ (gi k hk) g0 w
    omega
  have o2 : ∀ j ∈ mm_A, ∀ k ∈ mm_A, M j = M k → j = k := fun j hj k hk w => by
    have e := A2 _ _ _ _ (gi j hj) (gi k hk) w
    have e1 := idx_get j hj
    rw [show mm_A.idxOf j = mm_A.idxOf k by omega, idx_get k hk] at e1
    exact (Option.some.inj e1).symm
  refine ⟨⟨o1, o2⟩, fun b e hb => ?_, fun b e hb => ?_⟩
  · unfold mm_h at hb
    by_cases q : b = q3
    · rw [q]; exact hq
    · rw [if_neg q] at hb
      cases k : mm_A.find? (fun k => M k == b) with
      | none => rw [k] at hb; cases hb
      | some x =>
        have hx := List.mem_of_find?_eq_some k
        have ex : M x = b := by simpa using List.find?_some k
        rcases (A1 _ _ (gi x hx)).2 with ⟨j, e2, w⟩ | w
        · exfalso
          cases j with
          | zero => exact o1 x hx (congrArg Prod.fst (Option.some.inj w)).symm
          | succ j => simp at w
        · rw [← eo b q, ← ex]; exact w
  · unfold mm_h at hb
    by_cases q : b = q3
    · rw [if_pos q] at hb
      rw [q, ← hb]
      exact (A1 _ _ g0).1
    · rw [if_neg q] at hb
      cases k : mm_A.find? (fun k => M k == b) with
      | none =>
        rw [k] at hb
        refine A3 b e (by rw [eo b q]; exact hb) (fun j p w => ?_)
        cases j with
        | zero => have := Option.some.inj w; rw [← this]; exact fun w2 => q w2.symm
        | succ j => simp at w
      | some x =>
        rw [k] at hb
        have hx := List.mem_of_find?_eq_some k
        have ex : M x = b := by simpa using List.find?_some k
        have := (A1 _ _ (gi x hx)).1
        rw [ex] at this
        rw [← hb]
        exact this
theorem mI0 : mI st00 as0 := by
  have m : ∀ D : Nat → nd, ∃ d, md (fun _ => 0) 0 d D := fun D => ⟨fun _ => 0, Nat.zero_le _, rfl, fun k hk => absurd hk (Nat.not_lt_zero _), fun i j hi => absurd hi (Nat.not_lt_zero _), fun k hk => absurd hk (Nat.not_lt_zero _), fun _ _ _ => rfl⟩
  exact ⟨m _, m _, rfl, rfl, rfl, fun j hj => absurd hj (Nat.not_lt_zero _), rfl, fun j hj => absurd hj (Nat.not_lt_zero _)⟩
theorem aO0 : aO as0 := by
  have o : ∀ D : Nat → nd, nd_ok 0 0 D := fun D => ⟨Nat.zero_le _, fun k hk => absurd hk (Nat.not_lt_zero _)⟩
  exact ⟨⟨o _, o _, Nat.zero_le _, Nat.zero_le _, fun c hc => (by cases hc), Nat.zero_le _, fun i j hi => absurd hi (Nat.not_lt_zero _), fun i j hi => absurd hi (Nat.not_lt_zero _), fun k hk => absurd hk (Nat.not_lt_zero _), fun k hk => absurd hk (Nat.not_lt_zero _)⟩, nd_X0, nd_X0⟩
/-- a StringBuilder that is made -/
theorem sb_born {q : Nat} (c0 : h q = some (.inr (3, [.null, .int 0, .int 0, .int 0]))) {c s : Nat} (hc : 1 ≤ c) (hs : 16 ≤ s) {K : hm_T → hz_T → Prop} (hK : ∀ (h1 : hm_T) (v : Nat), jb dA h1 q v [] → h v = none → hm_mo h h1 (fun b => b = q) → K h1 z) : w_SB_init dA q c s K h z := by
  unfold w_SB_init w_AbstractStringBuilder_init3
  refine cg_c_of c0 (cg_rm_of (c1 := 1) (s1 := 16) hc hs ⟨16, 0, 0, rfl, by decide, rfl, rfl, fun v hv => ?_⟩)
  have nv : q ≠ v := hm_nn c0 hv
  have c1 : (hm_u h v (.inl (dA 2, 16, .inl (fun _ => 0))) : hm_T) q = some (.inr (3, [.null, .int 0, .int 0, .int 0])) := by rw [hm_n nv]; exact c0
  refine cg_p_of c1 (show 0 < 4 by decide) (cg_p_of hm_s (show 1 < 4 by decide) (hK _ v ⟨0, 16, fun _ => 0, hm_s, ?_, Or.inl rfl, Nat.zero_le _, ?_, fun i hi => absurd hi (Nat.not_lt_zero _), fun c hc => (by cases hc)⟩ hv ?_))
  · rw [hm_n (Ne.symm nv), hm_n (Ne.symm nv)]; exact hm_s
  · exact fun _ => rfl
  · intro b e hb n
    rw [hm_n n, hm_n n, hm_n (hm_nn hb hv)]
    exact hb
/-- a tree that is made -/
theorem tr_born {q : Nat} (c0 : h q = some (.inr (1, [.null, .int 0, .null, .int 0, .null, .int 0]))) {c s : Nat} (hc : 3 ≤ c) (hs : 280 ≤ s) {N B E : Nat → Nat} {J : Nat → Int32 × Option Nat × Int32 × Nat × Nat × Int32} {V : Nat → Int32 × Nat × Nat} {K : hm_T → hz_T → Prop} (hK : ∀ (h1 : hm_T) (aM aO aE : Nat), cp_T dA h1 q aM aO aE 0 0 0 N B E J V → hm_mo h h1 (fun b => b = q) → K h1 z) : w_Tree_init dA q c s K h z := by
  unfold w_Tree_init
  refine ⟨200, c - 1, s - 200, rfl, by decide, by omega, by omega, fun aM hM => ?_⟩
  have n1 : q ≠ aM := hm_nn c0 hM
  have c1 : (hm_u h aM (.inl (dA 5, 200, .inr (.inr (.inr (.inr (fun _ => none)))))) : hm_T) q = some (.inr (1, [.null, .int 0, .null, .int 0, .null, .int 0])) := by rw [hm_n n1]; exact c0
  refine cg_p_of c1 (show 0 < 6 by decide) ⟨40, c - 2, s - 240, rfl, by decide, by omega, by omega, fun aO hO => ?_⟩
  have n2 : q ≠ aO := hm_nn hm_s hO
  have m2 : aM ≠ aO := hm_nn (by rw [hm_n (Ne.symm n1)]; exact hm_s) hO
  refine cg_p_of (fs := [.ref aM, .int 0, .null, .int 0, .null, .int 0]) (by rw [hm_n n2]; exact hm_s) (show 2 < 6 by decide) ⟨40, c - 3, s - 280, rfl, by decide, by omega, by omega, fun aE hE => ?_⟩
  have n3 : q ≠ aE := hm_nn hm_s hE
  have m3 : aO ≠ aE := hm_nn (by rw [hm_n (Ne.symm n2)]; exact hm_s) hE
  have m4 : aM ≠ aE := hm_nn (by rw [hm_n (Ne.symm n1), hm_n m2, hm_n (Ne.symm n1)]; exact hm_s) hE
  refine cg_p_of (fs := [.ref aM, .int 0, .ref aO, .int 0, .null, .int 0]) (by rw [hm_n n3]; exact hm_s) (show 4 < 6 by decide) (hK _ aM aO aE ⟨hm_s, ⟨fun _ => none, ?_, fun i hi => absurd hi (Nat.not_lt_zero _)⟩, ⟨fun _ => none, ?_, fun i hi => absurd hi (Nat.not_lt_zero _)⟩, ⟨fun _ => none, ?_, fun i hi => absurd hi (Nat.not_lt_zero _)⟩, fun i hi => absurd hi (Nat.not_lt_zero _), fun i hi => absurd hi (Nat.not_lt_zero _), fun i hi => absurd hi (Nat.not_lt_zero _), m2, m4, m3, Nat.zero_le _, Nat.zero_le _, Nat.zero_le _⟩ ?_)
  · rw [hm_n (Ne.symm n1), hm_n m4, hm_n (Ne.symm n1), hm_n m2, hm_n (Ne.symm n1)]; exact hm_s
  · rw [hm_n (Ne.symm n2), hm_n m3, hm_n (Ne.symm n2)]; exact hm_s
  · rw [hm_n (Ne.symm n3)]; exact hm_s
  · intro b e hb n
    have b1 : b ≠ aM := hm_nn hb hM
    have g1 : (hm_u (hm_u h aM (.inl (dA 5, 200, .inr (.inr (.inr (.inr (fun _ => none))))))) q (.inr (1, [.ref aM, .int 0, .null, .int 0, .null, .int 0])) : hm_T) b = some e := by rw [hm_n n, hm_n b1]; exact hb
    have b2 : b ≠ aO := hm_nn g1 hO
    have g2 : (hm_u (hm_u (hm_u (hm_u h aM (.inl (dA 5, 200, .inr (.inr (.inr (.inr (fun _ => none))))))) q (.inr (1, [.ref aM, .int 0, .null, .int 0, .null, .int 0]))) aO (.inl (dA 5, 40, .inr (.inr (.inr (.inr (fun _ => none))))))) q (.inr (1, [.ref aM, .int 0, .ref aO, .int 0, .null, .int 0])) : hm_T) b = some e := by rw [hm_n n, hm_n b2]; exact g1
    have b3 : b ≠ aE := hm_nn g2 hE
    rw [hm_n n, hm_n b3]
    exact g2
/-- the class's object that is made -/
theorem pc_init (c0 : h y = some (.inr (0, [.null, .null, .null, .null, .int 0, .int 0]))) {K : hm_T → hz_T → Prop} (hK : ∀ h1, cI dA y h1 z as0 → K h1 z) : w_Store_init dA y 9 366 K h z := by
  unfold w_Store_init
  refine cg_new_of (by decide) (by decide) (fun bu hbu => ?_)
  refine cg_c_of hm_s (cg_rm_of (c1 := 1) (s1 := 16) (by decide) (by decide) (sb_born hm_s (Nat.le_refl _) (Nat.le_refl _) (fun h2 bv jB hbv M2 => ?_)))
  have y1 : y ≠ bu := hm_nn c0 hbu
  have c2 : h2 y = some (.inr (0, [.null, .null, .null, .null, .int 0, .int 0])) := M2 _ _ (by rw [hm_n y1]; exact c0) y1
  refine cg_p_of c2 (show 0 < 6 by decide) ?_
  generalize e3 : (hm_u h2 y _ : hm_T) = h3
  have s3 : h3 y = some (.inr (0, [.ref bu, .null, .null, .null, .int 0, .int 0])) := by rw [← e3]; exact hm_s
  have M3 : hm_mo h2 h3 (fun b => b = y) := by rw [← e3]; exact hm_mo.u rfl
  obtain ⟨mb, nb, fb, b1, b2, br⟩ := id jB
  have jB3 : jb dA h3 bu bv [] := jB.mo M3 (hm_ne b1 c2 rfl) (hm_ne b2 c2 rfl)
  refine cg_new_of (by decide) (by decide) (fun sc hsc => ?_)
  have jBs : jb dA (hm_u h3 sc (.inr (3, [.null, .int 0, .int 0, .int 0]))) bu bv [] := by
    obtain ⟨mb, nb, fb, b1, b2, br⟩ := id jB3
    exact ⟨mb, nb, fb, by rw [hm_n (hm_nn b1 hsc)]; exact b1, by rw [hm_n (hm_nn b2 hsc)]; exact b2, br⟩
  obtain ⟨mb3, nb3, fb3, b13, b23, br3⟩ := id jB3
  have nbs : bu ≠ sc := hm_nn b13 hsc
  have ys : y ≠ sc := hm_nn s3 hsc
  refine cg_c_of hm_s (cg_rm_of (c1 := 1) (s1 := 16) (by decide) (by decide) (sb_born hm_s (Nat.le_refl _) (Nat.le_refl _) (fun h4 sv jS hsv M4 => ?_)))
  have jB4 := jBs.mo M4 nbs (hm_nn b23 hsc)
  obtain ⟨mb4, nb4, fb4, b14, b24, br4⟩ := id jBs
  have nbv : bv ≠ sv := hm_nn b24 hsv
  have s4 : h4 y = some (.inr (0, [.ref bu, .null, .null, .null, .int 0, .int 0])) := M4 _ _ (by rw [hm_n ys]; exact s3) ys
  refine cg_p_of s4 (show 1 < 6 by decide) ?_
  generalize e5 : (hm_u h4 y _ : hm_T) = h5
  have s5 : h5 y = some (.inr (0, [.ref bu, .ref sc, .null, .null, .int 0, .int 0])) := by rw [← e5]; exact hm_s
  have M5 : hm_mo h4 h5 (fun b => b = y) := by rw [← e5]; exact hm_mo.u rfl
  obtain ⟨_, _, _, b15, b25, _⟩ := id jB4
  obtain ⟨_, _, _, s15, s25, _⟩ := id jS
  have jB5 := jB4.mo M5 (hm_ne b15 s4 rfl) (hm_ne b25 s4 rfl)
  have jS5 := jS.mo M5 (hm_ne s15 s4 rfl) (hm_ne s25 s4 rfl)
  refine cg_new_of (by decide) (by decide) (fun a ha => ?_)
  have M6 : hm_mo h5 (hm_u h5 a (.inr (1, [.null, .int 0, .null, .int 0, .null, .int 0]))) (fun _ => False) := fun b e hb _ => by rw [hm_n (hm_nn hb ha)]; exact hb
  refine cg_c_of hm_s (cg_rm_of (c1 := 3) (s1 := 280) (by decide) (by decide) (tr_born (N := fun _ => 0) (B := fun _ => 0) (E := fun _ => 0) (J := fun _ => (0, none, 0, 0, 0, 0)) (V := fun _ => (0, 0, 0)) hm_s (Nat.le_refl _) (Nat.le_refl _) (fun h7 aM aO aE T M7 => ?_)))
  have M57 : hm_mo h5 h7 (fun _ => False) := fun b e hb _ => M7 b e (M6 b e hb id) (hm_nn hb ha)
  have s7 := M57 _ _ s5 id
  have jB7 := jB5.mo M57 id id
  have jS7 := jS5.mo M57 id id
  refine cg_p_of s7 (show 2 < 6 by decide) ?_
  generalize e8 : (hm_u h7 y _ : hm_T) = h8
  have s8 : h8 y = some (.inr (0, [.ref bu, .ref sc, .ref a, .null, .int 0, .int 0])) := by rw [← e8]; exact hm_s
  have M8 : hm_mo h7 h8 (fun b => b = y) := by rw [← e8]; exact hm_mo.u rfl
  obtain ⟨_, _, _, b17, b27, _⟩ := id jB7
  obtain ⟨_, _, _, s17, s27, _⟩ := id jS7
  have jB8 := jB7.mo M8 (hm_ne b17 s7 rfl) (hm_ne b27 s7 rfl)
  have jS8 := jS7.mo M8 (hm_ne s17 s7 rfl) (hm_ne s27 s7 rfl)
  have T8 := T.mo M8 (fun b hb q => by rw [q] at hb; exact cp_nX T s7 rfl rfl rfl hb)
  refine ⟨40, 0, 0, rfl, by decide, rfl, rfl, fun fo hfo => ?_⟩
  have M9 : hm_mo h8 (hm_u h8 fo (.inl (dA 0, 40, .inl (fun _ => 0)))) (fun _ => False) := fun b e hb _ => by rw [hm_n (hm_nn hb hfo)]; exact hb
  have yf : y ≠ fo := hm_nn s8 hfo
  refine cg_p_of (M9 _ _ s8 id) (show 3 < 6 by decide) (cg_p_of hm_s (show 4 < 6 by decide) (cg_p_of hm_s (show 5 < 6 by decide) (hK _ ?_)))
  have M10 : hm_mo h8 (hm_u (hm_u (hm_u (hm_u h8 fo (.inl (dA 0, 40, .inl (fun _ => 0)))) y (.inr (0, [.ref bu, .ref sc, .ref a, .ref fo, .int 0, .int 0]))) y (.inr (0, [.ref bu, .ref sc, .ref a, .ref fo, .int 0, .int 0]))) y (.inr (0, [.ref bu, .ref sc, .ref a, .ref fo, .int 0, .int 0]))) (fun b => b = y) := fun b e hb n => by
    rw [hm_n n, hm_n n, hm_n n]
    exact M9 b e hb id
  obtain ⟨_, _, _, b18, b28, _⟩ := id jB8
  obtain ⟨_, _, _, s18, s28, _⟩ := id jS8
  refine ⟨bu, bv, sc, sv, fo, a, aM, aO, aE, fun _ => 0, fun _ => 0, fun _ => 0, fun _ => (0, none, 0, 0, 0, 0), fun _ => (0, 0, 0), [], hm_s, jB8.mo M10 (hm_ne b18 s8 rfl) (hm_ne b28 s8 rfl), jS8.mo M10 (hm_ne s18 s8 rfl) (hm_ne s28 s8 rfl), ⟨fun _ => 0, ?_, fun j hj => absurd hj (Nat.not_lt_zero _)⟩, T8.mo M10 (fun b hb q => by rw [q] at hb; exact cp_nX T8 s8 rfl rfl rfl hb), ⟨fun i hi => absurd hi (Nat.not_lt_zero _), fun i hi => absurd hi (Nat.not_lt_zero _), fun i hi => absurd hi (Nat.not_lt_zero _)⟩, fun k hk => absurd hk (Nat.not_lt_zero _), fun k hk => absurd hk (Nat.not_lt_zero _), nbs, nbv, hm_nn b28 hfo, hm_nn s28 hfo⟩
  rw [hm_n (Ne.symm yf), hm_n (Ne.symm yf), hm_n (Ne.symm yf)]
  exact hm_s
end QY2
/-! THE CLAIM OUT OF ONE WALK OF THE LAW'S BODY. Your part is whole_start (and what it stands on); all else here is the same for every law, but numbers. -/
def R_law : String := "MarkupStoreLaw"
def lw_P (b : Addr) (xs : List Int32) (args : Array Value) (s : State) : Prop := args = #[.ref b] ∧ s.IntsAt b xs ∧ xs.length ≤ 1536 ∧ (Jvm.Cond.and given_1 narrow_1).before args s = true
def lw_Q (_ : Array Value) (s : State) (o : Outcome) (t : State) : Prop := o = .returned (some (.int 1)) ∧ Framed s o t [] 600000 7302249
def lw_Z (below : List Frame) (a : Array Value) (s : State) : State → Prop := fun t => ∃ o, t.status = .running ∧ Ended t below o ∧ lw_Q a s o t
/-- the law's own end, with 1 on the stack, nothing written that was there before, its room as the claim has it -/
theorem lw_ret {p : Program} {l : Launch} {e : Env} {s : State} {m : MethodId} {below : List Frame} {meth : Method} {c : Code} {b : Nat} (hx : p.tables.exec = Jvm.exec) (hb : c.code = code) (hr : meth.sig.returnType = ret) (hlocks : meth.locks = false) {pc : Nat} {H : Heap} {ls : Array Slot} (hdg : decode code pc = .ok (.ireturn, 1)) : W p l e room_1 s m #[Value.ref b] below meth c H [] 600000 7302249 (lw_Z below #[Value.ref b] s) (F0 m pc ls [.int 1]) := by
  intro T hT X
  obtain ⟨fs, hret, hrun, hended, hW, hframe⟩ := X.leave (v := some (.int 1)) (hlocks := hlocks) (fun h => by rw [hr] at h; cases h)
  have hmeth' : T.vm.method? m = some meth := X.method'
  refine ⟨T.setFrames fs, ?_, .returned (some (.int 1)), hrun, hended, rfl, ⟨_, rfl⟩, hW, hframe⟩
  jvm_step X.here [X.here.top, hx, hb, hdg, hmeth', hr, ret, narrow_b1]
  (try refine ⟨rfl, ?_⟩); (try refine ⟨rfl, ?_⟩)
  first | (intro acts; rw [hret _ acts rfl rfl rfl]) | rw [hret _ _ rfl rfl rfl]
  exact Steps.refl _
/-- what holds at the law's entry: the machine, the code, the tables' words (any of lw_tbl by 'hts w (by decide +kernel)'), the script of L ints xs at the cell b, what the Statement gives of the start (any of its parts by flat_of_before) -/
def lw_At (p : Program) (s : State) (m : MethodId) (meth : Method) (c : Code) (b L : Nat) (xs : Nat → Int32) : Prop :=
  p.tables.exec = Jvm.exec ∧ c.code = code ∧ meth.sig.returnType = ret ∧ c.maxLocals = 4 ∧ s.vm.findClass R_law = some m.cls ∧ (∀ w ∈ lw_tbl, w.before #[Value.ref b] s = true) ∧ va_X b L xs s s.heap ∧ b < s.heap.size ∧ meth.locks = false ∧ (Jvm.Cond.and given_1 narrow_1).before #[Value.ref b] s = true
