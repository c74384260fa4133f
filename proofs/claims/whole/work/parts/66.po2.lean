-- writing out: the class
/-- the map with the scribe at q -/
def os (h : hm_T) (q : Nat) (w : Int32) (s : Int32 × Int32) : hm_T := hm_u h q (.inr (7, [.int w, .int s.1, .int s.2]))
theorem hm_uu {h : hm_T} {a : Nat} {e f : va_E} : hm_u (hm_u h a e) a f = hm_u h a f := by
  funext b
  by_cases q : b = a
  · rw [q, hm_s, hm_s]
  · rw [hm_n q, hm_n q, hm_n q]
section PO2
variable {dA : Nat → ClassId} {h : hm_T} {z : hz_T} {q : Nat} {w : Int32} {s : Int32 × Int32} {t u : Nat} {xs : List Nat}
theorem os_n (hq : h q = none) {b : Nat} {e : va_E} (c : h b = some e) : os h q w s b = some e := by
  unfold os
  rw [hm_n (hm_nn c hq)]
  exact c
theorem os_mo (hq : h q = none) : hm_mo h (os h q w s) (fun _ => False) := fun b e hb _ => os_n hq hb
theorem cp_put {c : Nat} {K : hm_T → hz_T → Prop} (hK : K (os h q w (o_put w s c)) z) : w_Scribe_put dA q (nI c) K (os h q w s) z := by
  unfold w_Scribe_put w_Scribe_put_16
  refine cg_I_of hm_s rfl (cg_I_of hm_s rfl ?_)
  unfold o_put at hK
  by_cases e : s.1 = w
  · rw [if_pos e] at hK
    refine if_yes e (cg_p_of hm_s (show _ < 3 by decide) (cg_I_of hm_s rfl (cg_p_of hm_s (show _ < 3 by decide) ?_)))
    unfold os
    rw [hm_uu, hm_uu]
    exact hK
  · rw [if_neg e] at hK
    refine if_no e (cg_I_of hm_s rfl (cg_p_of hm_s (show _ < 3 by decide) ?_))
    unfold os
    rw [hm_uu]
    exact hK
theorem cp_putAllL (hz : z t = some (u, xs)) (hl : xs.length < 2 ^ 30) (hc : ∀ c ∈ xs, c < 128) {K : hm_T → hz_T → Prop} : ∀ (r fu k : Nat) (s : Int32 × Int32), k + r = xs.length → r < fu → K (os h q w (o_all w s (xs.drop k))) z → w_Scribe_putAll_2 dA q K fu (some t) (nI k) (os h q w s) z := by
  intro r
  induction r with
  | zero =>
    intro fu k s hk hr hK
    obtain ⟨fu, rfl⟩ : ∃ f, fu = f + 1 := ⟨fu - 1, by omega⟩
    unfold w_Scribe_putAll_2
    rw [List.drop_eq_nil_of_le (by omega)] at hK
    exact cg_d_of ⟨u, xs, hz, if_yes (nI_le (by omega) (by omega)) hK⟩
  | succ r ih =>
    intro fu k s hk hr hK
    obtain ⟨fu, rfl⟩ : ∃ f, fu = f + 1 := ⟨fu - 1, by omega⟩
    have hlt : k < xs.length := by omega
    unfold w_Scribe_putAll_2
    refine cg_d_of ⟨u, xs, hz, if_no (nI_ge (by omega) (by omega)) (cg_d_of ⟨u, xs, k, hz, rfl, hlt, by omega, hc, cg_c_of hm_s (cp_put ?_)⟩)⟩
    rw [nI_1]
    refine ih fu (k + 1) _ (by omega) (by omega) ?_
    rw [List.drop_eq_getElem_cons hlt, o_all_cons] at hK
    rw [List.getD_eq_getElem?_getD, List.getElem?_eq_getElem hlt]
    exact hK
theorem cp_putAll (hz : z t = some (u, xs)) (hl : xs.length < 1000) (hc : ∀ c ∈ xs, c < 128) {K : hm_T → hz_T → Prop} (hK : K (os h q w (o_all w s xs)) z) : w_Scribe_putAll dA q (some t) K (os h q w s) z := by
  unfold w_Scribe_putAll
  exact cp_putAllL hz (by omega) hc xs.length mF 0 s (by omega) (by unfold mF; omega) hK
theorem cp_putValueL (hz : z t = some (u, xs)) (hl : xs.length < 2 ^ 30) (hc : ∀ c ∈ xs, c < 128) {te ue th : Nat} {ent : List Nat} (he : z te = some (ue, ent)) (hel : ent.length < 1000) (hec : ∀ c ∈ ent, c < 128) (hth : th < 128) {K : hm_T → hz_T → Prop} : ∀ (r fu k : Nat) (s : Int32 × Int32), k + r = xs.length → r < fu → K (os h q w (o_all w s (a_val th ent (xs.drop k)))) z → w_Scribe_putValue_3 dA q K fu (some t) (nI th) (some te) (nI k) (os h q w s) z := by
  intro r
  induction r with
  | zero =>
    intro fu k s hk hr hK
    obtain ⟨fu, rfl⟩ : ∃ f, fu = f + 1 := ⟨fu - 1, by omega⟩
    unfold w_Scribe_putValue_3
    rw [List.drop_eq_nil_of_le (by omega)] at hK
    exact cg_d_of ⟨u, xs, hz, if_yes (nI_le (by omega) (by omega)) hK⟩
  | succ r ih =>
    intro fu k s hk hr hK
    obtain ⟨fu, rfl⟩ : ∃ f, fu = f + 1 := ⟨fu - 1, by omega⟩
    have hlt : k < xs.length := by omega
    have hcl := getD_lt hc k
    have go : ∀ s, K (os h q w (o_all w s (a_val th ent (xs.drop (k + 1))))) z → w_Scribe_putValue_72 dA q K (w_Scribe_putValue_3 dA q K fu) (some t) (nI th) (some te) (nI k) (os h q w s) z := fun s hs => by
      unfold w_Scribe_putValue_72
      rw [nI_1]
      exact ih fu (k + 1) s (by omega) (by omega) hs
    have ev : a_val th ent (xs.drop k) = a_esc th ent (xs.getD k 0) ++ a_val th ent (xs.drop (k + 1)) := by
      rw [List.drop_eq_getElem_cons hlt, List.getD_eq_getElem?_getD, List.getElem?_eq_getElem hlt]
      rfl
    rw [ev, o_all_app] at hK
    unfold w_Scribe_putValue_3
    refine cg_d_of ⟨u, xs, hz, if_no (nI_ge (by omega) (by omega)) (cg_d_of ⟨u, xs, k, hz, rfl, hlt, by omega, hc, ?_⟩)⟩
    unfold a_esc at hK
    by_cases q1 : xs.getD k 0 = 38
    · rw [if_pos q1] at hK
      exact if_yes (by rw [q1]; rfl) (fun a9 u9 z9 => cg_c_of hm_s (cp_putAll z9 (by decide) (by decide) (go _ hK)))
    rw [if_neg q1] at hK
    refine if_no (fun e => q1 ((nI_eq (b := 38) (by omega) (by decide)).mp e)) ?_
    by_cases q2 : xs.getD k 0 = 60
    · rw [if_pos q2] at hK
      exact if_yes (by rw [q2]; rfl) (fun a9 u9 z9 => cg_c_of hm_s (cp_putAll z9 (by decide) (by decide) (go _ hK)))
    rw [if_neg q2] at hK
    refine if_no (fun e => q2 ((nI_eq (b := 60) (by omega) (by decide)).mp e)) ?_
    by_cases q3 : xs.getD k 0 = th
    · rw [if_pos q3] at hK
      exact if_yes (by rw [q3]) (cg_c_of hm_s (cp_putAll he hel hec (go _ hK)))
    rw [if_neg q3] at hK
    exact if_no (fun e => q3 ((nI_eq (by omega) (by omega)).mp e)) (cg_c_of hm_s (cp_put (go _ hK)))
theorem cp_putValue (hz : z t = some (u, xs)) (hl : xs.length < 1000) (hc : ∀ c ∈ xs, c < 128) {te ue th : Nat} {ent : List Nat} (he : z te = some (ue, ent)) (hel : ent.length < 1000) (hec : ∀ c ∈ ent, c < 128) (hth : th < 128) {K : hm_T → hz_T → Prop} (hK : K (os h q w (o_all w s (a_val th ent xs))) z) : w_Scribe_putValue dA q (some t) (nI th) (some te) K (os h q w s) z := by
  unfold w_Scribe_putValue
  exact cp_putValueL hz (by omega) hc he hel hec hth xs.length mF 0 s (by omega) (by unfold mF; omega) hK
end PO2
section PO2b
variable {dA : Nat → ClassId} {h : hm_T} {z : hz_T} {q : Nat} {w : Int32} {y mk n m : Nat} {D D2 : Nat → nd} {xs ws : List Nat} {rs : List Int32} {ch : Int32} {bu bv sc sv fo a aM aO aE : Nat} {N B E : Nat → Nat} {J : Nat → Int32 × Option Nat × Int32 × Nat × Nat × Int32} {V : Nat → Int32 × Nat × Nat}
theorem cp_Tos (T : cp_T dA h a aM aO aE mk n m N B E J V) (hq : h q = none) {s : Int32 × Int32} : cp_T dA (os h q w s) a aM aO aE mk n m N B E J V := T.mo (os_mo hq) (fun _ _ q => q)
theorem cp_closeL (C : cPCS dA y h z mk n D m D2 xs rs ch bu bv sc sv fo a aM aO aE N B E J V ws) (ok : nd_ok mk n D) (hq : h q = none) {qo : Option Nat} (hqo : ∀ k, qo = some k → k < n) {K : hm_T → hz_T → Prop} : ∀ (f fu : Nat) (o : Option Nat) (s : Int32 × Int32), (∀ k, o = some k → k < f ∧ k < n) → f < fu → K (os h q w (o_all w s (a_close D qo f o))) z → w_Scribe_closeUpTo_2 dA q K fu (qo.map B) (o.map B) (os h q w s) z := by
  obtain ⟨S, jB, jS, jF, T, P, d, d2, r⟩ := C
  intro f
  induction f with
  | zero =>
    intro fu o s ho hf hK
    obtain ⟨fu, rfl⟩ : ∃ f, fu = f + 1 := ⟨fu - 1, by omega⟩
    cases o with
    | none => unfold w_Scribe_closeUpTo_2; exact if_yes rfl hK
    | some k => have := ho k rfl; omega
  | succ f ih =>
    intro fu o s ho hf hK
    obtain ⟨fu, rfl⟩ : ∃ f, fu = f + 1 := ⟨fu - 1, by omega⟩
    unfold w_Scribe_closeUpTo_2
    cases o with
    | none => exact if_yes rfl hK
    | some k =>
      have hk := ho k rfl
      refine if_no (by simp) ?_
      have eq1 : (Option.map B (some k) = Option.map B qo) ↔ some k = qo := by
        cases qo with
        | none => simp
        | some j =>
          simp only [Option.map_some, Option.some.injEq]
          exact ⟨fun e => cp_Bi P ok.1 k j hk.2 (hqo j rfl) e, fun e => by rw [e]⟩
      by_cases e : some k = qo
      · refine if_yes (eq1.mpr e) ?_
        simp only [a_close, e, if_true] at hK
        exact hK
      · refine if_no (fun w => e (eq1.mp w)) ?_
        have hK2 : K (os h q w (o_all w (o_all w (o_all w (o_all w s [60, 47]) (D k).2.2.2.2.2) [62]) (a_close D qo f (D k).2.2.1))) z := by
          rw [← o_all_app, ← o_all_app, ← o_all_app]
          have e9 : a_close D qo (f + 1) (some k) = [60, 47] ++ ((D k).2.2.2.2.2 ++ ([62] ++ a_close D qo f (D k).2.2.1)) := by
            simp only [a_close, e, if_false, a_cl, List.append_assoc]
          rw [e9] at hK
          exact hK
        have nk := cp_nB T hk.2
        have o9 := ok.2 k hk.2
        obtain ⟨u, hu⟩ := (d k hk.2).2.2.2.2.2.2.2
        refine fun a9 u9 z9 => cg_c_of hm_s (cp_putAll z9 (by decide) (by decide) (cg_d_of (cg_R_ref (os_n hq nk) rfl (cg_c_of hm_s (cp_putAll hu (by omega) o9.2.2.2.2.2.2.2.1 (cg_c_of hm_s (cp_put (c := 62) (cg_d_of (cg_R_of (os_n hq nk) rfl ?_)))))))))
        rw [(d k hk.2).2.1]
        exact ih fu _ _ (fun p hp => by have := o9.2.2.1 p hp; omega) (by omega) hK2
theorem cp_close (C : cPCS dA y h z mk n D m D2 xs rs ch bu bv sc sv fo a aM aO aE N B E J V ws) (ok : nd_ok mk n D) (hq : h q = none) {qo o : Option Nat} (hqo : ∀ k, qo = some k → k < n) (ho : ∀ k, o = some k → k < n) {s : Int32 × Int32} {K : hm_T → hz_T → Prop} (hK : K (os h q w (o_all w s (a_close D qo 50 o))) z) : w_Scribe_closeUpTo dA q (o.map B) (qo.map B) K (os h q w s) z := by
  unfold w_Scribe_closeUpTo
  have hn := ok.1
  exact cp_closeL C ok hq hqo 50 mF o s (fun k hk => by have := ho k hk; omega) (by unfold mF; omega) hK
theorem ja_get {as : List Nat} {p dd : Nat} (j : ja dA h p dd as) (hq : h q = none) {s : Int32 × Int32} {i : Nat} (hi : i < as.length) {K : Nat → Prop} (hK : K (as.getD i 0)) : jd_get dA (os h q w s) p (nI i) K := by
  obtain ⟨mo, c1, c2⟩ := j
  rcases c2 with ⟨e, _⟩ | ⟨e, n9, f, c3, l1, l2, l3⟩
  · rw [e] at hi; cases hi
  · exact ⟨dd, as.length, mo, n9, i, _, f, os_n hq c1, os_n hq c3, rfl, hi, l1, by omega, l3 i hi, hK⟩
theorem cp_putStartL (C : cPCS dA y h z mk n D m D2 xs rs ch bu bv sc sv fo a aM aO aE N B E J V ws) (ok : nd_ok mk n D) (hq : h q = none) {k : Nat} (hk : k < n) {hc : Bool} {K : hm_T → hz_T → Prop} : ∀ (r fu i : Nat) (s : Int32 × Int32), i + r = (D k).2.2.2.2.1.length → r < fu → K (os h q w (o_all w s (((D k).2.2.2.2.1.drop i).flatMap a_att ++ (if hc then [62] else [47, 62])))) z → w_Scribe_putStart_16 dA q K fu (some (B k)) (if hc then 1 else 0) (nI i) (os h q w s) z := by
  obtain ⟨S, jB, jS, jF, T, P, d, d2, r9⟩ := C
  have nk := cp_nB T hk
  have o9 := ok.2 k hk
  obtain ⟨dd, as, j, n1, n2, el, ra⟩ := (d k hk).2.2.2.2.2.2.1
  intro r
  induction r with
  | zero =>
    intro fu i s hi hr hK
    obtain ⟨fu, rfl⟩ : ∃ f, fu = f + 1 := ⟨fu - 1, by omega⟩
    obtain ⟨mo, c1, c2⟩ := id j
    unfold w_Scribe_putStart_16 w_Scribe_putStart_103
    rw [List.drop_eq_nil_of_le (by omega)] at hK
    refine cg_d_of (cg_R_ref (os_n hq nk) rfl (cg_d_of ⟨dd, as.length, mo, os_n hq c1, if_yes (nI_le (by omega) (by omega)) ?_⟩))
    cases hc with
    | true => exact if_no (by decide) (fun a9 u9 z9 => cg_c_of hm_s (cp_putAll z9 (by decide) (by decide) hK))
    | false => exact if_yes rfl (fun a9 u9 z9 => cg_c_of hm_s (cp_putAll z9 (by decide) (by decide) hK))
  | succ r ih =>
    intro fu i s hi hr hK
    obtain ⟨fu, rfl⟩ : ∃ f, fu = f + 1 := ⟨fu - 1, by omega⟩
    obtain ⟨mo, c1, c2⟩ := id j
    have hlt : i < (D k).2.2.2.2.1.length := by omega
    obtain ⟨⟨p1, p2, u1, u2, e1, e2, e3⟩, e4⟩ := ra i hlt
    have hmem : (D k).2.2.2.2.1.getD i ([], []) ∈ (D k).2.2.2.2.1 := by
      rw [List.getD_eq_getElem?_getD, List.getElem?_eq_getElem hlt]
      exact List.getElem_mem hlt
    have hp := o9.2.2.2.2.2.1 _ hmem
    have ed : (D k).2.2.2.2.1.drop i = (D k).2.2.2.2.1.getD i ([], []) :: (D k).2.2.2.2.1.drop (i + 1) := by
      rw [List.drop_eq_getElem_cons hlt, List.getD_eq_getElem?_getD, List.getElem?_eq_getElem hlt]
      rfl
    rw [ed] at hK
    generalize (D k).2.2.2.2.1.getD i ([], []) = pr at *
    have hK2 : K (os h q w (o_all w (o_all w (o_all w (o_all w (o_all w (o_all w s [32]) pr.1) [61, 34]) (a_val 34 a_qu pr.2)) [34]) (((D k).2.2.2.2.1.drop (i + 1)).flatMap a_att ++ (if hc then [62] else [47, 62])))) z := by
      rw [← o_all_app, ← o_all_app, ← o_all_app, ← o_all_app, ← o_all_app]
      have e9 : (pr :: (D k).2.2.2.2.1.drop (i + 1)).flatMap a_att ++ (if hc then [62] else [47, 62]) = [32] ++ (pr.1 ++ ([61, 34] ++ (a_val 34 a_qu pr.2 ++ ([34] ++ (((D k).2.2.2.2.1.drop (i + 1)).flatMap a_att ++ (if hc then [62] else [47, 62])))))) := by
        simp [List.flatMap_cons, a_att, List.append_assoc]
      rw [e9] at hK
      exact hK
    unfold w_Scribe_putStart_16
    refine cg_d_of (cg_R_ref (os_n hq nk) rfl (cg_d_of ⟨dd, as.length, mo, os_n hq c1, if_no (nI_ge (by omega) (by omega)) (cg_c_of hm_s (cp_put (c := 32) (cg_d_of (cg_R_ref (os_n hq nk) rfl (cg_d_of (ja_get j hq (by omega) ?_))))))⟩))
    refine cg_c_of (os_n hq e1) (cg_c_of (os_n hq e1) ?_)
    unfold w_Attribute_name
    refine cg_R_ref (os_n hq e1) rfl (cg_c_of hm_s (cp_putAll e2 (by omega) hp.2.2.1 ?_))
    refine fun a9 u9 z9 => cg_c_of hm_s (cp_putAll z9 (by decide) (by decide) (cg_d_of (cg_R_ref (os_n hq nk) rfl (cg_d_of (ja_get j hq (by omega) (cg_c_of (os_n hq e1) (cg_c_of (os_n hq e1) ?_)))))))
    unfold w_Attribute_value
    refine cg_R_ref (os_n hq e1) rfl (fun a8 u8 z8 => cg_c_of hm_s (cp_putValue (th := 34) e3 (by omega) hp.2.2.2 z8 (by decide) (by decide) (by decide) (cg_c_of hm_s (cp_put (c := 34) ?_))))
    rw [nI_1]
    exact ih fu (i + 1) _ (by omega) (by omega) hK2
theorem cp_putStart (C : cPCS dA y h z mk n D m D2 xs rs ch bu bv sc sv fo a aM aO aE N B E J V ws) (ok : nd_ok mk n D) (hq : h q = none) {k : Nat} (hk : k < n) {hc : Bool} {s : Int32 × Int32} {K : hm_T → hz_T → Prop} (hK : K (os h q w (o_all w s (a_tag (D k) ++ (if hc then [62] else [47, 62])))) z) : w_Scribe_putStart dA q (some (B k)) (if hc then 1 else 0) K (os h q w s) z := by
  have C0 := C
  obtain ⟨S, jB, jS, jF, T, P, d, d2, r9⟩ := C
  have nk := cp_nB T hk
  have o9 := ok.2 k hk
  obtain ⟨u, hu⟩ := (d k hk).2.2.2.2.2.2.2
  unfold w_Scribe_putStart
  refine cg_c_of hm_s (cp_put (c := 60) (cg_d_of (cg_R_ref (os_n hq nk) rfl (cg_c_of hm_s (cp_putAll hu (by omega) o9.2.2.2.2.2.2.2.1 ?_)))))
  refine cp_putStartL C0 ok hq hk (D k).2.2.2.2.1.length mF 0 _ (by omega) (by unfold mF; omega) ?_
  rw [List.drop_zero]
  have e9 : a_tag (D k) ++ (if hc then [62] else [47, 62]) = [60] ++ ((D k).2.2.2.2.2 ++ ((D k).2.2.2.2.1.flatMap a_att ++ (if hc then [62] else [47, 62]))) := by
    simp [a_tag, List.append_assoc]
  rw [e9, o_all_app, o_all_app] at hK
  exact hK
end PO2b
