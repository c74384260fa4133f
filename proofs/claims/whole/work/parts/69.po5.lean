-- writing out: the reference's calls
section PO5
variable {st : mT} {mk n m : Nat} {D D2 : Nat → nd} {xs : List Nat} {rs : List Int32} {ch : Int32} {d : Nat → Nat}
theorem mp_up (M : md (st.2.1 0) n d D) (ok : nd_ok mk n D) {k : Nat} (hk : k < n) (k17 : Int32 → mT → Option mT) : ∀ (f fu : Nat) (o : Option Nat) (s : Int32 × Int32), (∀ e, o = some e → e < f ∧ e < n) → f < fu → g_write_153 k17 fu (nI k) 1 (mp_sl d o) (mo st s) = k17 (nI (k + 1)) (mo st (o_all (st.1 58) s (a_up n D k f o))) := by
  have hn := M.1
  intro f
  induction f with
  | zero =>
    intro fu o s ho hf
    obtain ⟨fu, rfl⟩ : ∃ f, fu = f + 1 := ⟨fu - 1, by omega⟩
    cases o with
    | none =>
      unfold g_write_153
      rw [show mp_sl d none = -1 from rfl, if_pos (by decide)]
      unfold g_write_213
      rw [nI_1]
      rfl
    | some e => have := ho e rfl; omega
  | succ f ih =>
    intro fu o s ho hf
    obtain ⟨fu, rfl⟩ : ∃ f, fu = f + 1 := ⟨fu - 1, by omega⟩
    cases o with
    | none =>
      unfold g_write_153
      rw [show mp_sl d none = -1 from rfl, if_pos (by decide)]
      unfold g_write_213
      rw [nI_1]
      rfl
    | some e =>
      have he := ho e rfl
      have M2 : ∀ s, md ((mo st s).2.1 0) n d D := fun _ => M
      have hde := (M.2.2.1 e he.2).1
      have hes := mp_end_spec (pa := fun k => (D k).2.2.1) he.2
      unfold g_write_153
      rw [show mp_sl d (some e) = nI (d e) from rfl, if_neg (nI_pos (by omega)), if_neg (by decide), mp_bd (mp_order (md_D (M2 s)) he.2 M.2.2.2.1)]
      simp only []
      rw [mp_bd (mp_gend (md_D (M2 s)) (md_P (M2 s) ok) he.2)]
      simp only []
      rw [nI_1]
      show _ = k17 (nI (k + 1)) (mo st (o_all (st.1 58) s (if a_end n D e = k + 1 then a_cl (D e) ++ a_up n D k f (D e).2.2.1 else [])))
      by_cases q : a_end n D e = k + 1
      · rw [if_pos q, if_pos (show nI (mp_end (fun k => (D k).2.2.1) n e) = nI (k + 1) from by rw [← q]; rfl), mp_bd (mp_f2 (A := 60) (B := 47) 60 47 rfl rfl), mp_bd (mp_outName M ok he.2), mp_bd (mp_outI (c := 62) 62 rfl), mp_bd (mp_fpc (md_D (M2 _)) he.2)]
        simp only []
        have e2 : mp_pc (mo st (o_put (st.1 58) (o_all (st.1 58) (o_all (st.1 58) s [60, 47]) (D e).2.2.2.2.2) 62)) d e = mp_sl d (D e).2.2.1 := by
          have := md_pc (M2 (o_put (st.1 58) (o_all (st.1 58) (o_all (st.1 58) s [60, 47]) (D e).2.2.2.2.2) 62)) he.2
          rw [this]
          unfold md_ps mp_sl
          cases (D e).2.2.1 <;> rfl
        rw [e2, ih fu _ _ (fun p hp => by have := (ok.2 e he.2).2.2.1 p hp; omega) (by omega)]
        refine congrArg (fun q => k17 (nI (k + 1)) (mo st q)) ?_
        rw [o_all_app]
        refine congrArg (fun q => o_all (st.1 58) q (a_up n D k f (D e).2.2.1)) ?_
        show o_all (st.1 58) (o_all (st.1 58) (o_all (st.1 58) s [60, 47]) (D e).2.2.2.2.2) [62] = o_all (st.1 58) s (a_cl (D e))
        unfold a_cl
        rw [o_all_app, o_all_app]
      · rw [if_neg q, if_neg (show ¬ nI (mp_end (fun k => (D k).2.2.1) n e) = nI (k + 1) from fun w => q ((nI_eq (a := mp_end (fun k => (D k).2.2.1) n e) (by omega) (by omega)).mp w))]
        unfold g_write_213
        rw [nI_1]
        rfl
theorem mp_145 (M : md (st.2.1 0) n d D) (ok : nd_ok mk n D) {k : Nat} (hk : k < n) (k17 : Int32 → mT → Option mT) {em : Bool} (he : em = true ↔ a_end n D k = k + 1) (s : Int32 × Int32) : g_write_145 k17 (nI k) (nI (d k)) (if em then 1 else 0) (mo st s) = k17 (nI (k + 1)) (mo st (o_all (st.1 58) s (if a_end n D k = k + 1 then a_up n D k 50 (D k).2.2.1 else []))) := by
  have hn := M.1
  have M2 : md ((mo st s).2.1 0) n d D := M
  have e2 : mp_pc (mo st s) d k = mp_sl d (D k).2.2.1 := by
    rw [md_pc M2 hk]
    unfold md_ps mp_sl
    cases (D k).2.2.1 <;> rfl
  unfold g_write_145
  rw [mp_bd (mp_fpc (md_D M2) hk)]
  simp only []
  rw [e2]
  cases em with
  | true =>
    rw [if_pos (show true = true from rfl), mp_up M ok hk k17 50 mF _ s (fun p hp => by have := (ok.2 k hk).2.2.1 p hp; omega) (by unfold mF; omega), if_pos (he.mp rfl)]
  | false =>
    rw [if_neg (show ¬ false = true by decide), if_neg (fun w => by have := he.mpr w; cases this)]
    show g_write_153 k17 (5999 + 1) _ _ _ _ = _
    unfold g_write_153
    by_cases q : mp_sl d (D k).2.2.1 < 0
    · rw [if_pos q]
      unfold g_write_213
      rw [nI_1]
      rfl
    · rw [if_neg q, if_pos rfl]
      unfold g_write_213
      rw [nI_1]
      rfl
theorem mp_102 (M : md (st.2.1 0) n d D) (ok : nd_ok mk n D) {k : Nat} (hk : k < n) (h2 : (D k).2.1 = 2) (k17 : Int32 → mT → Option mT) (em : Int32) : ∀ (r fu i : Nat) (s : Int32 × Int32), i + r = (D k).2.2.2.2.2.length → r < fu → g_write_102 k17 fu (nI k) (nI (d k)) em (nI i) (mo st s) = g_write_145 k17 (nI k) (nI (d k)) em (mo st (o_all (st.1 58) s (a_val 62 a_gt ((D k).2.2.2.2.2.drop i)))) := by
  have rw_ := M.2.2.2.2.1 k hk
  have o := ok.2 k hk
  have hd := (M.2.2.1 k hk).1
  have hc := o.2.2.2.2.2.2.2.1
  have e3 : ∀ s, g_f (nI (d k)) 3 (mo st s) = some (nI (D k).2.2.2.2.2.length, mo st s) := fun s => by rw [← rw_.2.2.2.1]; exact mp_fo (o := 3) hd (by decide)
  have e1 : ∀ s, g_f (nI (d k)) 1 (mo st s) = some (2, mo st s) := fun s => by
    have := mp_fo (st := st) (s := s) (o := 1) hd (by decide)
    rw [rw_.2.1, h2] at this
    exact this
  intro r
  induction r with
  | zero =>
    intro fu i s hi hf
    obtain ⟨fu, rfl⟩ : ∃ f, fu = f + 1 := ⟨fu - 1, by omega⟩
    unfold g_write_102
    rw [mp_bd (e3 s), if_pos (nI_le (by omega) (by omega)), List.drop_eq_nil_of_le (by omega)]
    rfl
  | succ r ih =>
    intro fu i s hi hf
    obtain ⟨fu, rfl⟩ : ∃ f, fu = f + 1 := ⟨fu - 1, by omega⟩
    have hlt : i < (D k).2.2.2.2.2.length := by omega
    have e8 : g_f (nI (d k)) (8 + nI i) (mo st s) = some (nI ((D k).2.2.2.2.2.getD i 0), mo st s) := by
      rw [show (8 : Int32) + nI i = nI (8 + i) from nI_add 8 i, mp_fo hd (by omega), ← Nat.add_assoc, rw_.2.2.2.2.2.2.1 i hlt]
    have ev : a_val 62 a_gt ((D k).2.2.2.2.2.drop i) = a_esc 62 a_gt ((D k).2.2.2.2.2.getD i 0) ++ a_val 62 a_gt ((D k).2.2.2.2.2.drop (i + 1)) := by
      rw [List.drop_eq_getElem_cons hlt, List.getD_eq_getElem?_getD, List.getElem?_eq_getElem hlt]
      rfl
    unfold g_write_102
    rw [mp_bd (e3 s), if_neg (nI_ge (by omega) (by omega)), mp_bd (e1 s)]
    simp only [if_true]
    rw [mp_bd e8, mp_bd (show g_outValue (nI ((D k).2.2.2.2.2.getD i 0)) 62 (mo st s) = some (mo st (o_all (st.1 58) s (a_esc 62 a_gt ((D k).2.2.2.2.2.getD i 0)))) from mp_outValue (q := 62) (getD_lt hc i) (Or.inl ⟨rfl, rfl⟩)), nI_1, ih fu (i + 1) _ (by omega) (by omega), ev]
    exact congrArg (fun q => g_write_145 k17 (nI k) (nI (d k)) em (mo st q)) o_all_app.symm
theorem mp_102n (M : md (st.2.1 0) n d D) (ok : nd_ok mk n D) {k : Nat} (hk : k < n) (h2 : ¬ (D k).2.1 = 2) (k17 : Int32 → mT → Option mT) (em : Int32) (s : Int32 × Int32) : g_write_102 k17 mF (nI k) (nI (d k)) em 0 (mo st s) = g_write_145 k17 (nI k) (nI (d k)) em (mo st s) := by
  have rw_ := M.2.2.2.2.1 k hk
  have o := ok.2 k hk
  have hd := (M.2.2.1 k hk).1
  have e3 : g_f (nI (d k)) 3 (mo st s) = some (nI (D k).2.2.2.2.2.length, mo st s) := by rw [← rw_.2.2.2.1]; exact mp_fo (o := 3) hd (by decide)
  have e1 : g_f (nI (d k)) 1 (mo st s) = some (nI (D k).2.1, mo st s) := by rw [← rw_.2.1]; exact mp_fo (o := 1) hd (by decide)
  show g_write_102 k17 (5999 + 1) _ _ _ _ _ = _
  unfold g_write_102
  rw [mp_bd e3]
  simp only []
  by_cases q : nI (D k).2.2.2.2.2.length ≤ 0
  · rw [if_pos q]
  · rw [if_neg q, mp_bd e1]
    simp only []
    rw [if_neg (show ¬ nI (D k).2.1 = 2 from fun w => h2 ((nI_eq (b := 2) (by omega) (by decide)).mp w))]
theorem mp_47 (M : md (st.2.1 0) n d D) (ok : nd_ok mk n D) {k : Nat} (hk : k < n) (k17 : Int32 → mT → Option mT) {em : Bool} (he : em = true ↔ a_end n D k = k + 1) (s : Int32 × Int32) : g_write_47 k17 (nI k) (nI (d k)) (if em then 1 else 0) (mo st s) = k17 (nI (k + 1)) (mo st (o_all (st.1 58) s (a_pc n D k ++ (if a_end n D k = k + 1 then a_up n D k 50 (D k).2.2.1 else [])))) := by
  have rw_ := M.2.2.2.2.1 k hk
  have o := ok.2 k hk
  have hd := (M.2.2.1 k hk).1
  have hes := mp_end_spec (pa := fun k => (D k).2.2.1) hk
  have e1 : ∀ s, g_f (nI (d k)) 1 (mo st s) = some (nI (D k).2.1, mo st s) := fun s => by rw [← rw_.2.1]; exact mp_fo (o := 1) hd (by decide)
  unfold g_write_47
  rw [mp_bd (e1 s)]
  simp only []
  by_cases q1 : (D k).2.1 = 1
  · rw [if_pos (show nI (D k).2.1 = 1 by rw [q1]; rfl), mp_bd (mp_outTag M ok hk), show a_pc n D k = a_tag (D k) ++ (if k + 1 < a_end n D k then [62] else [47, 62]) from if_pos q1]
    have fin : ∀ s, g_write_75 k17 (nI k) (nI (d k)) (if em then 1 else 0) (mo st s) = k17 (nI (k + 1)) (mo st (o_all (st.1 58) (o_put (st.1 58) s 62) (if a_end n D k = k + 1 then a_up n D k 50 (D k).2.2.1 else []))) := fun s => by
      unfold g_write_75
      rw [mp_bd (mp_outI (c := 62) 62 rfl)]
      unfold g_write_99
      rw [mp_102n M ok hk (by omega), mp_145 M ok hk k17 he]
    cases em with
    | true =>
      have e9 := he.mp rfl
      rw [if_neg (show ¬ (if true = true then (1 : Int32) else 0) = 0 by decide), mp_bd (mp_outI (c := 47) 47 rfl), fin, if_neg (show ¬ k + 1 < a_end n D k by omega), o_all_app, o_all_app]
      rfl
    | false =>
      have e9 : ¬ a_end n D k = k + 1 := fun w => by have := he.mpr w; cases this
      rw [if_pos (show (if false = true then (1 : Int32) else 0) = 0 by decide), fin, if_pos (show k + 1 < a_end n D k by have := hes.1; unfold a_end at e9 ⊢; omega), o_all_app, o_all_app]
      rfl
  · rw [if_neg (show ¬ nI (D k).2.1 = 1 from fun w => q1 ((nI_eq (b := 1) (by omega) (by decide)).mp w)), mp_bd (e1 s)]
    simp only []
    by_cases q2 : (D k).2.1 = 2
    · rw [if_neg (show ¬ nI (D k).2.1 = 3 from fun w => by have := (nI_eq (b := 3) (by omega) (by decide)).mp w; omega), show a_pc n D k = a_val 62 a_gt (D k).2.2.2.2.2 from (if_neg q1).trans (if_pos q2)]
      unfold g_write_99
      have := mp_102 M ok hk q2 k17 (if em then 1 else 0) (D k).2.2.2.2.2.length mF 0 s (by omega) (by unfold mF; omega)
      rw [show (nI 0 : Int32) = 0 from rfl] at this
      rw [this, mp_145 M ok hk k17 he, List.drop_zero]
      exact congrArg (fun q => k17 (nI (k + 1)) (mo st q)) o_all_app.symm
    · rw [if_pos (show nI (D k).2.1 = 3 by rw [show (D k).2.1 = 3 by omega]; rfl), mp_bd (mp_outCom M ok hk), show a_pc n D k = [60, 33, 45, 45] ++ ((D k).2.2.2.2.2 ++ [45, 45, 62]) from (if_neg q1).trans (if_neg q2)]
      unfold g_write_99
      rw [mp_102n M ok hk q2, mp_145 M ok hk k17 he]
      exact congrArg (fun q => k17 (nI (k + 1)) (mo st q)) o_all_app.symm
theorem mp_17 (M : md (st.2.1 0) n d D) (ok : nd_ok mk n D) : ∀ (r fu k : Nat) (s : Int32 × Int32), k + r = n → r < fu → g_write_17 fu (nI k) (mo st s) = some (mo st (o_all (st.1 58) s (a_rf n D r k))) := by
  have hn := M.1
  have M2 : ∀ s, md ((mo st s).2.1 0) n d D := fun _ => M
  intro r
  induction r with
  | zero =>
    intro fu k s hk hf
    obtain ⟨fu, rfl⟩ : ∃ f, fu = f + 1 := ⟨fu - 1, by omega⟩
    unfold g_write_17
    rw [mp_bd (mp_cnt (md_D (M2 s))), if_pos (nI_le (by omega) (by omega))]
    rfl
  | succ r ih =>
    intro fu k s hk hf
    obtain ⟨fu, rfl⟩ : ∃ f, fu = f + 1 := ⟨fu - 1, by omega⟩
    have hkn : k < n := by omega
    have hes := mp_end_spec (pa := fun k => (D k).2.2.1) hkn
    have fin : k + r + 1 = n → g_write_17 fu (nI (k + 1)) (mo st (o_all (st.1 58) s (a_pc n D k ++ (if a_end n D k = k + 1 then a_up n D k 50 (D k).2.2.1 else [])))) = some (mo st (o_all (st.1 58) s (a_rf n D (r + 1) k))) := fun _ => by
      rw [ih fu (k + 1) _ (by omega) (by omega), ← o_all_app]
      show _ = some (mo st (o_all (st.1 58) s (a_pc n D k ++ ((if a_end n D k = k + 1 then a_up n D k 50 (D k).2.2.1 else []) ++ a_rf n D r (k + 1)))))
      rw [List.append_assoc]
    unfold g_write_17
    rw [mp_bd (mp_cnt (md_D (M2 s))), if_neg (nI_ge (by omega) (by omega)), mp_bd (mp_dc (md_D (M2 s)) hkn)]
    simp only []
    rw [mp_bd (mp_gend (md_D (M2 s)) (md_P (M2 s) ok) hkn)]
    simp only []
    rw [nI_1]
    by_cases q : a_end n D k = k + 1
    · rw [if_pos (show nI (mp_end (fun k => (D k).2.2.1) n k) = nI (k + 1) from by rw [← q]; rfl)]
      have := mp_47 (em := true) M ok hkn (g_write_17 fu) ⟨fun _ => q, fun _ => rfl⟩ s
      rw [if_pos (show true = true from rfl)] at this
      rw [this]
      exact fin (by omega)
    · rw [if_neg (show ¬ nI (mp_end (fun k => (D k).2.2.1) n k) = nI (k + 1) from fun w => q ((nI_eq (a := mp_end (fun k => (D k).2.2.1) n k) (by omega) (by omega)).mp w))]
      have := mp_47 (em := false) M ok hkn (g_write_17 fu) ⟨(fun w => by cases w), fun w => absurd w q⟩ s
      rw [if_neg (show ¬ false = true by decide)] at this
      rw [this]
      exact fin (by omega)
/-- the reference's state behind writing -/
def mw (st : mT) (w : Int32) (s : Int32 × Int32) : mT := mo (mm_F st 58 w) s
theorem mp_write (M : md (st.2.1 0) n d D) (ok : nd_ok mk n D) (w : Int32) : g_write w st = some (mw st w (o_all w (0, 0) (a_rf n D n 0))) := by
  have hn := M.1
  have e : mm_F (mm_F (mm_F st 58 w) 57 0) 59 0 = mo (mm_F st 58 w) (0, 0) := by
    unfold mm_F mo
    refine Prod.ext ?_ rfl
    funext i
    show upd (upd (upd st.1 58 w) 57 0) 59 0 i = upd (upd (upd st.1 58 w) 59 0) 57 0 i
    by_cases q : i = 57
    · subst q; rw [upd_n (by decide), upd_s, upd_s]
    · rw [upd_n q]
      by_cases q2 : i = 59
      · rw [q2, upd_s, upd_s]
      · rw [upd_n q2, upd_n q, upd_n q2]
  unfold g_write
  show g_write_17 mF 0 (mm_F (mm_F (mm_F st 58 w) 57 0) 59 0) = _
  rw [e]
  have M2 : md ((mm_F st 58 w).2.1 0) n d D := M
  have := mp_17 M2 ok n mF 0 (0, 0) (by omega) (by unfold mF; omega)
  rw [show (nI 0 : Int32) = 0 from rfl] at this
  rw [this, show (mm_F st 58 w).1 58 = w from by show upd st.1 58 w 58 = w; exact upd_s]
  rfl
theorem mPIC_w (I : mPIC st mk n D m D2 xs rs ch) {w : Int32} {s : Int32 × Int32} : mPIC (mw st w s) mk n D m D2 xs rs ch := by
  obtain ⟨a1, a2, r1, r2, r3, r4, r5, r6⟩ := I
  have e : ∀ i, i ≠ 57 → i ≠ 58 → i ≠ 59 → (mw st w s).1 i = st.1 i := fun i h1 h2 h3 => by
    show upd (upd (upd st.1 58 w) 59 s.2) 57 s.1 i = _
    rw [upd_n h1, upd_n h3, upd_n h2]
  exact ⟨a1, a2, by rw [e _ (by decide) (by decide) (by decide)]; exact r1, by rw [e _ (by decide) (by decide) (by decide)]; exact r2, by rw [e _ (by decide) (by decide) (by decide)]; exact r3, r4, by rw [e _ (by decide) (by decide) (by decide)]; exact r5, r6⟩
theorem pm_length (I : mPIC st mk n D m D2 xs rs ch) (ok : nd_ok mk n D) (pre : nd_pre n D) : ∃ st2, g_length st = some ((o_all (-1) (0, 0) (a_wr n D n 0 none)).1, st2) ∧ mPIC st2 mk n D m D2 xs rs ch := by
  obtain ⟨d, M⟩ := I.1
  refine ⟨_, ?_, mPIC_w I (w := -1) (s := o_all (-1) (0, 0) (a_rf n D n 0))⟩
  unfold g_length
  rw [mp_bd (mp_write M ok (-1)), a_wr_eq ok pre]
  rfl
theorem pm_written (I : mPIC st mk n D m D2 xs rs ch) (ok : nd_ok mk n D) (pre : nd_pre n D) (x : Int32) : ∃ st2, g_written x st = some ((o_all x (0, 0) (a_wr n D n 0 none)).2, st2) ∧ mPIC st2 mk n D m D2 xs rs ch := by
  obtain ⟨d, M⟩ := I.1
  refine ⟨_, ?_, mPIC_w I (w := x) (s := o_all x (0, 0) (a_rf n D n 0))⟩
  unfold g_written
  rw [mp_bd (mp_write M ok x), a_wr_eq ok pre]
  rw [show (mw st x (o_all x (0, 0) (a_rf n D n 0))).1 59 = (o_all x (0, 0) (a_rf n D n 0)).2 from mo_59]
end PO5
