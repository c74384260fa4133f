-- the base: one table of words for all methods, the start as a base for every later state, contracts over a world of cells, and one row for each kind of call
def ms_tb : List Cond := lw_tbl.filter goodWord ++ ms_xs
theorem ms_in {w : Cond} (i : Nat) (h : tables_1[i]? = some w) (hg : goodWord w = true) : w ∈ ms_tb := List.mem_append_left _ (List.mem_filter.mpr ⟨List.mem_append_right _ (List.mem_of_getElem? h), hg⟩)
theorem ms_inP {w : Cond} (i : Nat) (h : (k2_sels lw_privs)[i]? = some w) (hg : goodWord w = true) : w ∈ ms_tb := List.mem_append_left _ (List.mem_filter.mpr ⟨List.mem_append_left _ (List.mem_of_getElem? h), hg⟩)
theorem ms_inX {w : Cond} (i : Nat) (h : ms_xs[i]? = some w) : w ∈ ms_tb := List.mem_append_right _ (List.mem_of_getElem? h)
theorem ms_good {w : Cond} (h : w ∈ ms_tb) : (w.onTables && w.keeps) = true ∨ ∃ ty, w = .arrayClass ty := by
  rcases List.mem_append.mp h with h | h
  · exact good_of_word (List.mem_filter.mp h).2
  · exact good_of_word (ms_xs_good w h)
theorem ms_t1 {w : Cond} (h : w ∈ tables_1_1) : w ∈ tables_1 := List.mem_append_left _ h
theorem ms_i1 {w : Cond} (i : Nat) (h : tables_1_1[i]? = some w) (hg : goodWord w = true) : w ∈ ms_tb := List.mem_append_left _ (List.mem_filter.mpr ⟨List.mem_append_right _ (ms_t1 (List.mem_of_getElem? h)), hg⟩)
theorem ms_t2 {w : Cond} (h : w ∈ tables_1_2) : w ∈ tables_1 := List.mem_append_right _ (List.mem_append_left _ h)
theorem ms_i2 {w : Cond} (i : Nat) (h : tables_1_2[i]? = some w) (hg : goodWord w = true) : w ∈ ms_tb := List.mem_append_left _ (List.mem_filter.mpr ⟨List.mem_append_right _ (ms_t2 (List.mem_of_getElem? h)), hg⟩)
theorem ms_t3 {w : Cond} (h : w ∈ tables_1_3) : w ∈ tables_1 := List.mem_append_right _ (List.mem_append_right _ (List.mem_append_left _ h))
theorem ms_i3 {w : Cond} (i : Nat) (h : tables_1_3[i]? = some w) (hg : goodWord w = true) : w ∈ ms_tb := List.mem_append_left _ (List.mem_filter.mpr ⟨List.mem_append_right _ (ms_t3 (List.mem_of_getElem? h)), hg⟩)
theorem ms_t4 {w : Cond} (h : w ∈ tables_1_4) : w ∈ tables_1 := List.mem_append_right _ (List.mem_append_right _ (List.mem_append_right _ (List.mem_append_left _ h)))
theorem ms_i4 {w : Cond} (i : Nat) (h : tables_1_4[i]? = some w) (hg : goodWord w = true) : w ∈ ms_tb := List.mem_append_left _ (List.mem_filter.mpr ⟨List.mem_append_right _ (ms_t4 (List.mem_of_getElem? h)), hg⟩)
theorem ms_t5 {w : Cond} (h : w ∈ tables_1_5) : w ∈ tables_1 := List.mem_append_right _ (List.mem_append_right _ (List.mem_append_right _ (List.mem_append_right _ (List.mem_append_left _ h))))
theorem ms_i5 {w : Cond} (i : Nat) (h : tables_1_5[i]? = some w) (hg : goodWord w = true) : w ∈ ms_tb := List.mem_append_left _ (List.mem_filter.mpr ⟨List.mem_append_right _ (ms_t5 (List.mem_of_getElem? h)), hg⟩)
theorem ms_t6 {w : Cond} (h : w ∈ tables_1_6) : w ∈ tables_1 := List.mem_append_right _ (List.mem_append_right _ (List.mem_append_right _ (List.mem_append_right _ (List.mem_append_right _ (List.mem_append_left _ h)))))
theorem ms_i6 {w : Cond} (i : Nat) (h : tables_1_6[i]? = some w) (hg : goodWord w = true) : w ∈ ms_tb := List.mem_append_left _ (List.mem_filter.mpr ⟨List.mem_append_right _ (ms_t6 (List.mem_of_getElem? h)), hg⟩)
theorem ms_t7 {w : Cond} (h : w ∈ tables_1_7) : w ∈ tables_1 := List.mem_append_right _ (List.mem_append_right _ (List.mem_append_right _ (List.mem_append_right _ (List.mem_append_right _ (List.mem_append_right _ (List.mem_append_left _ h))))))
theorem ms_i7 {w : Cond} (i : Nat) (h : tables_1_7[i]? = some w) (hg : goodWord w = true) : w ∈ ms_tb := List.mem_append_left _ (List.mem_filter.mpr ⟨List.mem_append_right _ (ms_t7 (List.mem_of_getElem? h)), hg⟩)
theorem ms_t8 {w : Cond} (h : w ∈ tables_1_8) : w ∈ tables_1 := List.mem_append_right _ (List.mem_append_right _ (List.mem_append_right _ (List.mem_append_right _ (List.mem_append_right _ (List.mem_append_right _ (List.mem_append_right _ (h)))))))
theorem ms_i8 {w : Cond} (i : Nat) (h : tables_1_8[i]? = some w) (hg : goodWord w = true) : w ∈ ms_tb := List.mem_append_left _ (List.mem_filter.mpr ⟨List.mem_append_right _ (ms_t8 (List.mem_of_getElem? h)), hg⟩)
/-- U comes behind s0: its tables are s0's, warmed; the cells of s0 are as they were -/
def ms_Bs (s0 U : State) : Prop := s0.WarmedH U.vm ∧ s0.heap.size ≤ U.heap.size ∧ ∀ q : Nat, q < s0.heap.size → U.heap[q]? = s0.heap[q]?
/-- what a method answers: the outcome and the world behind it -/
def ms_Q (D : va_G) (A : Nat → Prop) (Rr : Option Value → va_W → Prop) : Array Value → State → Outcome → State → Prop := fun _ st oc t => (∃ (v : Option Value) (w : va_W), oc = .returned v ∧ Rr v w ∧ va_P D vwCl w t.heap ∧ va_D A w) ∧ va_F A st t
def ms_Pre (D : va_G) (s0 : State) (sz : Nat) (ws : va_W) : State → Prop := fun U => U.heap.size = sz ∧ va_P D vwCl ws U.heap ∧ va_D (fun q => s0.heap.size ≤ q) ws ∧ ms_Bs s0 U
/-- a contract: from the world ws and the arguments, the method returns v with the world w, Rr v w -/
def ms_C (l : Launch) (D : va_G) (s0 : State) (y : MethodName) (b : ByteArray) (n : Nat) (ret : Option FieldType) (fr lo mc ms : Nat) (as : List Value) (ws : va_W) (Rr : Option Value → va_W → Prop) : Prop :=
  ∀ sz : Nat, Met l y [.code y b n ret] { frames := fr, cells := mc, slots := ms, locals := lo } (va_Pc as (ms_Pre D s0 sz ws)) (ms_Q D (va_A ws sz) Rr) mc ms (va_A ws sz)
/-- what a method's walk has at hand -/
def ms_X (D : va_G) (tys : List (ClassId × FieldType)) (s0 : State) (p : Program) (s : State) (m : MethodId) (args : Array Value) (meth : Method) (c : Code) (A : Nat → Prop) (y : MethodName) (b : ByteArray) (n : Nat) (ret : Option FieldType) : Prop :=
  p.tables.exec = Jvm.exec ∧ c.code = b ∧ c.maxLocals = n ∧ s.vm.findClass y.cls = some m.cls ∧ meth.sig.returnType = ret ∧ meth.locks = false ∧ (∀ w ∈ ms_tb, w.before args s = true) ∧ ms_Bs s0 s ∧ va_K D vwCl tys s ∧ (∀ q, A q → s0.heap.size ≤ q) ∧ ∀ q, s.heap.size ≤ q → A q
/-- what the start gives -/
def ms_E (D : va_G) (tys : List (ClassId × FieldType)) (s0 : State) : Prop := (∀ w ∈ ms_tb, w.before #[] s0 = true) ∧ va_K D vwCl tys s0
theorem ms_words {D : va_G} {tys : List (ClassId × FieldType)} {s0 U : State} (hE : ms_E D tys s0) (hB : ms_Bs s0 U) (a : Array Value) : ∀ w ∈ ms_tb, w.before a U = true := fun w hw => word_at hB.1 (ms_good hw) (hE.1 w hw)
theorem ms_C.mk {l : Launch} {D : va_G} {tys : List (ClassId × FieldType)} {s0 : State} {y : MethodName} {b : ByteArray} {n : Nat} {ret : Option FieldType} {fr lo mc ms : Nat} {as : List Value} {ws : va_W} {Rr : Option Value → va_W → Prop} (hE : ms_E D tys s0) (hy : plainName y.cls = true) (hn : (lg_sl as).length ≤ n) (lv : List (Nat × Value)) (hlv : lv_args 0 as = lv)
    (body : ∀ (p : Program) (e : Env) (s : State) (m : MethodId) (below : List Frame) (meth : Method) (c : Code) (A : Nat → Prop) (ls : Array Slot), ms_X D tys s0 p s m as.toArray meth c A y b n ret → meth.name = y.name → va_P D vwCl ws s.heap → va_D A ws → va_S A s.heap s.heap [] → lv_has ls n lv →
      W p l e { frames := fr, cells := mc, slots := ms, locals := lo } s m as.toArray below meth c s.heap [] 0 0 (MQ below (ms_Q D A Rr) as.toArray s mc ms A) (F0 m 0 ls [])) : ms_C l D s0 y b n ret fr lo mc ms as ws Rr := by
  intro sz
  refine Met.ofW (cc := b) (maxL := n) (ret := ret) hy rfl ?_
  intro p e s m args below meth c s₁ B hml hv
  obtain ⟨rfl, hsz, hP, hD0, hB⟩ := hv
  subst hsz
  have hD : va_D (va_A ws s.heap.size) ws := hD0.self (sz := s.heap.size)
  have hl := lv_entry as (n := n) hn
  rw [hlv] at hl
  rw [lg_entry_eq]
  refine body p e s m below meth c (va_A ws s.heap.size) _ ⟨B.exec, B.bytes, hml, findClass_of_methodNamed B.named, B.returns, B.notSynchronized, ms_words hE hB _, hB, va_K.moved hB.1.alike hE.2, ?_, fun q h => Or.inr h⟩ (name_of_methodNamed B.named B.method).1 hP hD va_S.rf hl
  intro q h
  rcases h with ⟨k, x, h⟩ | h
  · exact hD0.2 k _ h
  · exact Nat.le_trans hB.2.1 h
section MSW
variable {p : Program} {l : Launch} {e : Env} {R : Room} {s s0 : State} {m : MethodId} {args : Array Value} {below : List Frame} {meth : Method} {c : Code} {H : Heap} {locs : List Loc} {cells slots : Nat} {Q : State → Prop}
variable {cc : ByteArray} {pc : Nat} {ls : Array Slot} {rest : List Value} {D : va_G} {A : Nat → Prop} {ws : va_W} {mc ms : Nat} {Rr : Option Value → va_W → Prop} {tys : List (ClassId × FieldType)} {y0 : MethodName} {n0 : Nat} {ret0 : Option FieldType}
-- the ends
theorem ms_vret (X : ms_X D tys s0 p s m args meth c A y0 cc n0 none) (hdg : decode cc pc = .ok (.return_, 1)) (hP : va_P D vwCl ws H) (hD : va_D A ws) (hS : va_S A s.heap H locs) (h1 : cells ≤ mc) (h2 : slots ≤ ms) (hR : Rr none ws) : W p l e R s m args below meth c H locs cells slots (MQ below (ms_Q D A Rr) args s mc ms A) (F0 m pc ls []) :=
  W.widen h1 h2 (W.vret X.1 X.2.1 X.2.2.2.2.1 (fun _ ht _ => ⟨⟨none, ws, rfl, hR, by rw [ht]; exact hP, hD⟩, hS.F ht⟩) hS.2.2 hdg X.2.2.2.2.2.1)
theorem ms_iret {v : Int32} (X : ms_X D tys s0 p s m args meth c A y0 cc n0 (some .int)) (hdg : decode cc pc = .ok (.ireturn, 1)) (hP : va_P D vwCl ws H) (hD : va_D A ws) (hS : va_S A s.heap H locs) (h1 : cells ≤ mc) (h2 : slots ≤ ms) (hR : Rr (some (.int v)) ws) : W p l e R s m args below meth c H locs cells slots (MQ below (ms_Q D A Rr) args s mc ms A) (F0 m pc ls [.int v]) :=
  W.widen h1 h2 (W.iret X.1 X.2.1 X.2.2.2.2.1 (fun _ ht _ => ⟨⟨some (.int v), ws, rfl, hR, by rw [ht]; exact hP, hD⟩, hS.F ht⟩) hS.2.2 hdg X.2.2.2.2.2.1)
theorem ms_zret {v : Int32} {ty : FieldType} (X : ms_X D tys s0 p s m args meth c A y0 cc n0 (some ty)) (hdg : decode cc pc = .ok (.ireturn, 1)) (hP : va_P D vwCl ws H) (hD : va_D A ws) (hS : va_S A s.heap H locs) (h1 : cells ≤ mc) (h2 : slots ≤ ms) (hR : Rr (some (.int v)) ws) (hn : narrow ty (.int v) = .int v) : W p l e R s m args below meth c H locs cells slots (MQ below (ms_Q D A Rr) args s mc ms A) (F0 m pc ls [.int v]) :=
  W.widen h1 h2 (W.zret X.1 X.2.1 X.2.2.2.2.1 hn (fun _ ht _ => ⟨⟨some (.int v), ws, rfl, hR, by rw [ht]; exact hP, hD⟩, hS.F ht⟩) hS.2.2 hdg X.2.2.2.2.2.1)
theorem ms_lret {v : Int64} (X : ms_X D tys s0 p s m args meth c A y0 cc n0 (some .long)) (hdg : decode cc pc = .ok (.lreturn, 1)) (hP : va_P D vwCl ws H) (hD : va_D A ws) (hS : va_S A s.heap H locs) (h1 : cells ≤ mc) (h2 : slots ≤ ms) (hR : Rr (some (.long v)) ws) : W p l e R s m args below meth c H locs cells slots (MQ below (ms_Q D A Rr) args s mc ms A) (F0 m pc ls [.long v]) :=
  W.widen h1 h2 (W.lret X.1 X.2.1 X.2.2.2.2.1 (fun _ ht _ => ⟨⟨some (.long v), ws, rfl, hR, by rw [ht]; exact hP, hD⟩, hS.F ht⟩) hS.2.2 hdg X.2.2.2.2.2.1)
theorem ms_aret {v : Value} {rt : FieldType} (X : ms_X D tys s0 p s m args meth c A y0 cc n0 (some rt)) (hdg : decode cc pc = .ok (.areturn, 1)) (hP : va_P D vwCl ws H) (hD : va_D A ws) (hS : va_S A s.heap H locs) (h1 : cells ≤ mc) (h2 : slots ≤ ms) (hR : Rr (some v) ws) (hrt : (∃ n, rt = .object n) ∨ ∃ t, rt = .array t) (hv : v = .null ∨ ∃ a, v = .ref a) : W p l e R s m args below meth c H locs cells slots (MQ below (ms_Q D A Rr) args s mc ms A) (F0 m pc ls [v]) :=
  W.widen h1 h2 (W.aret X.1 X.2.1 X.2.2.2.2.1 hrt hv (fun _ ht _ => ⟨⟨some v, ws, rfl, hR, by rw [ht]; exact hP, hD⟩, hS.F ht⟩) hS.2.2 hdg X.2.2.2.2.2.1)
-- a call's end, over any kind of call
theorem ms_go {A1 : Nat → Prop} {a : Array Value} {st0 : List Value} {free : Addr → Prop} {H0 : Heap} (hr : va_Run p l e R s m args below meth c H locs cells slots mc ms (F0 m pc ls st0) rest (ms_Q D A1 Rr a) free) (hS : va_S A H0 H locs) (hA : ∀ q, q < H.size → A1 q → A q) (hf : ∀ q, free q → A q)
    (kk : ∀ (v : Option Value) (w : va_W) (H1 : Heap) (locs1 : List Loc), Rr v w → va_P D vwCl w H1 → va_D A1 w → H.size ≤ H1.size → (∀ q : Nat, q < H.size → ¬ A1 q → H1[q]? = H[q]?) → va_S A H0 H1 locs1 → W p l e R s m args below meth c H1 locs1 (cells + mc) (slots + ms) Q (F0 m (pc + 3) ls (v.toList ++ rest))) : W p l e R s m args below meth c H locs cells slots Q (F0 m pc ls st0) := by
  intro T hT X
  obtain ⟨v, st₀, t, T', L, h0, X', hL, e1, e2, ⟨⟨v', w, hv, hp, hPw, hDw⟩, hz, hk⟩, st⟩ := hr T hT X
  cases hv
  rw [h0] at hz hk
  obtain ⟨t2, a1, b1⟩ := kk v w T'.heap (locs ++ L) hp (by rw [e1]; exact hPw) hDw (by rw [e1]; exact hz) (fun q h1 h2 => by rw [e1]; exact hk q h1 h2)
    ⟨Nat.le_trans hS.1 (by rw [e1]; exact hz), fun q h1 h2 => by rw [e1, hk q (Nat.lt_of_lt_of_le h1 hS.1) (fun z => h2 (hA q (Nat.lt_of_lt_of_le h1 hS.1) z))]; exact hS.2.1 q h1 h2, fun q hq => by
      rcases List.mem_append.mp hq with h | h
      · exact hS.2.2 q h
      · exact hf _ (hL q h)⟩ T' rfl X'
  exact ⟨t2, st t2 a1, b1⟩
/-- cut, call, join -/
theorem ms_call {a : Array Value} {st0 : List Value} {wc wr : va_W} (hr : va_Run p l e R s m args below meth c H locs cells slots mc ms (F0 m pc ls st0) rest (ms_Q D (va_A wc H.size) Rr a) (va_A wc H.size)) (X : ms_X D tys s0 p s m args meth c A y0 cc n0 ret0) (hP : va_P D vwCl ws H) (hD : va_D A ws) (hS : va_S A s.heap H locs) (isC isR : List Nat) (hC : isC.map (fun i => ws[i]?) = wc.map some) (hR : isR.map (fun i => ws[i]?) = wr.map some) (hn : va_nd isR = true) (hdis : ∀ i ∈ isR, i ∉ isC)
    (kk : ∀ (v : Option Value) (w : va_W) (H1 : Heap) (locs1 : List Loc), Rr v w → va_P D vwCl (wr ++ w) H1 → va_D A (wr ++ w) → va_S A s.heap H1 locs1 → W p l e R s m args below meth c H1 locs1 (cells + mc) (slots + ms) Q (F0 m (pc + 3) ls (v.toList ++ rest))) : W p l e R s m args below meth c H locs cells slots Q (F0 m pc ls st0) := by
  have hF := va_free (wc := wc) hD hS X.2.2.2.2.2.2.2.2.2.2 isC hC
  refine ms_go hr hS (fun q _ h => hF q h) hF (fun v w H1 locs1 h1 h2 h3 _ h5 h6 => ?_)
  obtain ⟨hP', hD'⟩ := va_join hP hD isC isR hC hR hn hdis h5 hF h2 h3
  exact kk v w H1 locs1 h1 hP' hD' h6
/-- the callee's start, at the caller's place -/
theorem ms_pre {wc : va_W} {as : List Value} (X : ms_X D tys s0 p s m args meth c A y0 cc n0 ret0) (hP : va_P D vwCl ws H) (hD : va_D A ws) (hS : va_S A s.heap H locs) (isC : List Nat) (hnC : va_nd isC = true) (hC : isC.map (fun i => ws[i]?) = wc.map some) : PreS s H (va_Pc as (ms_Pre D s0 H.size wc)) as := by
  refine ⟨fun _ _ _ _ q => q, fun U hU hW => ⟨rfl, by rw [hU], ?_, (hD.sub isC hnC hC).weaken (fun _ _ _ h => X.2.2.2.2.2.2.2.2.2.1 _ h), ?_⟩⟩
  · rw [hU]
    intro k q hq
    have h1 : (isC.map (fun i => ws[i]?))[k]? = some (some q) := by rw [hC, List.getElem?_map, hq]; rfl
    rw [List.getElem?_map] at h1
    cases hi : isC[k]? with
    | none => rw [hi] at h1; cases h1
    | some i => rw [hi] at h1; exact hP i q (Option.some.inj h1)
  · have hB := X.2.2.2.2.2.2.2.1
    refine ⟨hB.1.trans hW, by rw [hU]; exact Nat.le_trans hB.2.1 hS.1, fun q hq => ?_⟩
    rw [hU, hS.2.1 q (Nat.lt_of_lt_of_le hq hB.2.1) (fun h => absurd (X.2.2.2.2.2.2.2.2.2.1 q h) (Nat.not_le.mpr hq))]
    exact hB.2.2 q hq
end MSW
theorem ms_g1 {w : Cond} (h : w ∈ ms_tb) : GoodIn ms_tb [w] := fun x hx => by
  rw [List.mem_singleton.mp hx]
  exact ⟨h, ms_good h⟩
theorem ms_gs {ws : List Cond} (h : ∀ w ∈ ws, w ∈ ms_tb) : GoodIn ms_tb ws := fun x hx => ⟨h x hx, ms_good (h x hx)⟩
section MSC
variable {p : Program} {l : Launch} {e : Env} {R : Room} {s s0 : State} {m : MethodId} {args : Array Value} {below : List Frame} {meth : Method} {c : Code} {H : Heap} {locs : List Loc} {cells slots : Nat} {Q : State → Prop}
variable {cc : ByteArray} {pc : Nat} {ls : Array Slot} {rest st0 : List Value} {D : va_G} {A : Nat → Prop} {ws wc wr : va_W} {mc ms : Nat} {Rr : Option Value → va_W → Prop} {tys : List (ClassId × FieldType)} {y0 : MethodName} {n0 : Nat} {ret0 : Option FieldType} {lv : List (Nat × Value)}
variable {y : MethodName} {b : ByteArray} {n : Nat} {ret : Option FieldType} {fr lo : Nat} {as : List Value} {idx : Nat} {h : Nat} {C : String}
theorem ms_S (X : ms_X D tys s0 p s m args meth c A y0 cc n0 ret0) (hl : lv_has ls n0 lv) (hM : ms_C l D s0 y b n ret fr lo mc ms as wc Rr) (hw : ∀ w ∈ va_wsS y0.cls idx y [.code y b n ret], w ∈ ms_tb) (hd : y.cls ≠ "java/lang/invoke/MethodHandle" ∧ y.cls ≠ "java/lang/invoke/VarHandle" ∧ (parseMethodDescriptor y.desc).map (fun d => d.parameters.length) = some as.length)
    (hP : va_P D vwCl ws H) (hD : va_D A ws) (hS : va_S A s.heap H locs) (isC isR : List Nat) (hC : isC.map (fun i => ws[i]?) = wc.map some) (hR : isR.map (fun i => ws[i]?) = wr.map some) (hk : va_nd isC = true ∧ va_nd isR = true ∧ ∀ i ∈ isR, i ∉ isC) (hrm : (fr + 1 ≤ R.frames ∧ 8 + (n + 11) + lo ≤ R.locals) ∧ cells + mc ≤ R.cells ∧ slots + ms ≤ R.slots) (hst : st0 = as.reverse ++ rest) (hrs : (rest.map fun v => v.category).sum ≤ 8) (hdg : decode cc pc = .ok (.invokestatic idx, 3))
    (kk : ∀ (v : Option Value) (w : va_W) (H1 : Heap) (locs1 : List Loc), Rr v w → va_P D vwCl (wr ++ w) H1 → va_D A (wr ++ w) → va_S A s.heap H1 locs1 → W p l e R s m args below meth c H1 locs1 (cells + mc) (slots + ms) Q (F0 m (pc + 3) ls (v.toList ++ rest))) : W p l e R s m args below meth c H locs cells slots Q (F0 m pc ls st0) :=
  ms_call (va_runS (As := as) (rest := rest) ⟨X.1, X.2.1, X.2.2.1, X.2.2.2.1, X.2.2.2.2.2.2.1⟩ (hM H.size) (va_cwS as.length X.2.2.2.2.2.2.1 (ms_gs hw) rfl rfl rfl hd hrm.1) (ms_pre X hP hD hS isC hk.1 hC) rfl rfl hl.1 hst (lv_room hrs) hdg hrm.2) X hP hD hS isC isR hC hR hk.2.1 hk.2.2 kk
theorem ms_I (X : ms_X D tys s0 p s m args meth c A y0 cc n0 ret0) (hl : lv_has ls n0 lv) (hM : ms_C l D s0 y b n none fr lo mc ms (.ref h :: as) wc Rr) (hw : ∀ w ∈ ([.methodLink y0.cls idx y, .instanceMethod y, .initialized y.cls, .code y b n none] : List Cond), w ∈ ms_tb) (hy : y.name = "<init>") (hd : y.cls ≠ "java/lang/invoke/MethodHandle" ∧ y.cls ≠ "java/lang/invoke/VarHandle" ∧ (parseMethodDescriptor y.desc).map (fun d => d.parameters.length) = some as.length)
    (hP : va_P D vwCl ws H) (hD : va_D A ws) (hS : va_S A s.heap H locs) (isC isR : List Nat) (hC : isC.map (fun i => ws[i]?) = wc.map some) (hR : isR.map (fun i => ws[i]?) = wr.map some) (hk : va_nd isC = true ∧ va_nd isR = true ∧ ∀ i ∈ isR, i ∉ isC) (hrm : (fr + 1 ≤ R.frames ∧ 8 + (n + 11) + lo ≤ R.locals) ∧ cells + mc ≤ R.cells ∧ slots + ms ≤ R.slots) (hst : st0 = as.reverse ++ .ref h :: rest) (hrs : (rest.map fun v => v.category).sum ≤ 8) (hdg : decode cc pc = .ok (.invokespecial idx, 3))
    (kk : ∀ (v : Option Value) (w : va_W) (H1 : Heap) (locs1 : List Loc), Rr v w → va_P D vwCl (wr ++ w) H1 → va_D A (wr ++ w) → va_S A s.heap H1 locs1 → W p l e R s m args below meth c H1 locs1 (cells + mc) (slots + ms) Q (F0 m (pc + 3) ls (v.toList ++ rest))) : W p l e R s m args below meth c H locs cells slots Q (F0 m pc ls st0) :=
  ms_call (va_runI (As := as) (rest := rest) ⟨X.1, X.2.1, X.2.2.1, X.2.2.2.1, X.2.2.2.2.2.2.1⟩ (hM H.size) (cwI as.length X.2.2.2.2.2.2.1 (ms_g1 (hw _ (by simp))) rfl rfl rfl (X.2.2.2.2.2.2.1 _ (hw _ (by simp))) (X.2.2.2.2.2.2.1 _ (hw _ (by simp))) (X.2.2.2.2.2.2.1 _ (hw _ (by simp))) hy hd hrm.1) (ms_pre X hP hD hS isC hk.1 hC) rfl rfl hl.1 hst (lv_room hrs) hdg hrm.2) X hP hD hS isC isR hC hR hk.2.1 hk.2.2 kk
theorem ms_V (X : ms_X D tys s0 p s m args meth c A y0 cc n0 ret0) (hl : lv_has ls n0 lv) (hM : ms_C l D s0 y b n ret fr lo mc ms (.ref h :: as) wc Rr) (hw : ∀ w ∈ wsV y0.cls idx C y [.code y b n ret], w ∈ ms_tb) (hd : y.cls = C ∧ y.cls ≠ "java/lang/invoke/MethodHandle" ∧ y.cls ≠ "java/lang/invoke/VarHandle" ∧ (parseMethodDescriptor y.desc).map (fun d => d.parameters.length) = some as.length) (hv : ∃ cellB : Cell, H[h]? = some cellB ∧ cellB.vm.isStatics = false ∧ s.vm.findClass C = some cellB.cls)
    (hP : va_P D vwCl ws H) (hD : va_D A ws) (hS : va_S A s.heap H locs) (isC isR : List Nat) (hC : isC.map (fun i => ws[i]?) = wc.map some) (hR : isR.map (fun i => ws[i]?) = wr.map some) (hk : va_nd isC = true ∧ va_nd isR = true ∧ ∀ i ∈ isR, i ∉ isC) (hrm : (fr + 1 ≤ R.frames ∧ 8 + (n + 11) + lo ≤ R.locals) ∧ cells + mc ≤ R.cells ∧ slots + ms ≤ R.slots) (hst : st0 = as.reverse ++ .ref h :: rest) (hrs : (rest.map fun v => v.category).sum ≤ 8) (hdg : decode cc pc = .ok (.invokevirtual idx, 3))
    (kk : ∀ (v : Option Value) (w : va_W) (H1 : Heap) (locs1 : List Loc), Rr v w → va_P D vwCl (wr ++ w) H1 → va_D A (wr ++ w) → va_S A s.heap H1 locs1 → W p l e R s m args below meth c H1 locs1 (cells + mc) (slots + ms) Q (F0 m (pc + 3) ls (v.toList ++ rest))) : W p l e R s m args below meth c H locs cells slots Q (F0 m pc ls st0) :=
  ms_call (va_runV (As := as) (rest := rest) ⟨X.1, X.2.1, X.2.2.1, X.2.2.2.1, X.2.2.2.2.2.2.1⟩ (hM H.size) (cwV as.length X.2.2.2.2.2.2.1 (ms_gs hw) rfl rfl rfl hd hrm.1) ⟨(ms_pre (as := .ref h :: as) X hP hD hS isC hk.1 hC).1, hv, (ms_pre X hP hD hS isC hk.1 hC).2⟩ rfl rfl hl.1 hst (lv_room hrs) hdg hrm.2) X hP hD hS isC isR hC hR hk.2.1 hk.2.2 kk
theorem ms_U {x : MethodName} {owner : String} (X : ms_X D tys s0 p s m args meth c A y0 cc n0 ret0) (hl : lv_has ls n0 lv) (hM : ms_C l D s0 y b n ret fr lo mc ms (.ref h :: as) wc Rr) (hw : ∀ w ∈ va_wsU y0.cls idx C owner x y [.code y b n ret], w ∈ ms_tb) (hyx : y = ⟨owner, x.name, x.desc⟩) (hd : owner ≠ "java/lang/invoke/MethodHandle" ∧ owner ≠ "java/lang/invoke/VarHandle" ∧ (parseMethodDescriptor x.desc).map (fun d => d.parameters.length) = some as.length) (hv : ∃ cellB : Cell, H[h]? = some cellB ∧ cellB.vm.isStatics = false ∧ s.vm.findClass C = some cellB.cls)
    (hP : va_P D vwCl ws H) (hD : va_D A ws) (hS : va_S A s.heap H locs) (isC isR : List Nat) (hC : isC.map (fun i => ws[i]?) = wc.map some) (hR : isR.map (fun i => ws[i]?) = wr.map some) (hk : va_nd isC = true ∧ va_nd isR = true ∧ ∀ i ∈ isR, i ∉ isC) (hrm : (fr + 1 ≤ R.frames ∧ 8 + (n + 11) + lo ≤ R.locals) ∧ cells + mc ≤ R.cells ∧ slots + ms ≤ R.slots) (hst : st0 = as.reverse ++ .ref h :: rest) (hrs : (rest.map fun v => v.category).sum ≤ 8) (hdg : decode cc pc = .ok (.invokevirtual idx, 3))
    (kk : ∀ (v : Option Value) (w : va_W) (H1 : Heap) (locs1 : List Loc), Rr v w → va_P D vwCl (wr ++ w) H1 → va_D A (wr ++ w) → va_S A s.heap H1 locs1 → W p l e R s m args below meth c H1 locs1 (cells + mc) (slots + ms) Q (F0 m (pc + 3) ls (v.toList ++ rest))) : W p l e R s m args below meth c H locs cells slots Q (F0 m pc ls st0) :=
  ms_call (va_runU (As := as) (rest := rest) ⟨X.1, X.2.1, X.2.2.1, X.2.2.2.1, X.2.2.2.2.2.2.1⟩ (hM H.size) (va_cwU as.length X.2.2.2.2.2.2.1 (ms_gs hw) rfl rfl rfl hyx hd hrm.1) ⟨(ms_pre (as := .ref h :: as) X hP hD hS isC hk.1 hC).1, hv, (ms_pre X hP hD hS isC hk.1 hC).2⟩ rfl rfl hl.1 hst (lv_room hrs) hdg hrm.2) X hP hD hS isC isR hC hR hk.2.1 hk.2.2 kk
theorem ms_O {x : MethodName} {owner : String} {b0 : ByteArray} {m0 : Nat} {r0 : Option FieldType} (X : ms_X D tys s0 p s m args meth c A y0 cc n0 ret0) (hl : lv_has ls n0 lv) (hM : ms_C l D s0 y b n ret fr lo mc ms (.ref h :: as) wc Rr) (hw : ∀ w ∈ va_wsO y0.cls idx C owner x y [.code y b n ret], w ∈ ms_tb) (hc0 : Cond.code ⟨owner, x.name, x.desc⟩ b0 m0 r0 ∈ ms_tb) (hd : owner ≠ "java/lang/invoke/MethodHandle" ∧ owner ≠ "java/lang/invoke/VarHandle" ∧ (parseMethodDescriptor x.desc).map (fun d => d.parameters.length) = some as.length) (hv : ∃ cellB : Cell, H[h]? = some cellB ∧ cellB.vm.isStatics = false ∧ s.vm.findClass C = some cellB.cls)
    (hP : va_P D vwCl ws H) (hD : va_D A ws) (hS : va_S A s.heap H locs) (isC isR : List Nat) (hC : isC.map (fun i => ws[i]?) = wc.map some) (hR : isR.map (fun i => ws[i]?) = wr.map some) (hk : va_nd isC = true ∧ va_nd isR = true ∧ ∀ i ∈ isR, i ∉ isC) (hrm : (fr + 1 ≤ R.frames ∧ 8 + (n + 11) + lo ≤ R.locals) ∧ cells + mc ≤ R.cells ∧ slots + ms ≤ R.slots) (hst : st0 = as.reverse ++ .ref h :: rest) (hrs : (rest.map fun v => v.category).sum ≤ 8) (hdg : decode cc pc = .ok (.invokevirtual idx, 3))
    (kk : ∀ (v : Option Value) (w : va_W) (H1 : Heap) (locs1 : List Loc), Rr v w → va_P D vwCl (wr ++ w) H1 → va_D A (wr ++ w) → va_S A s.heap H1 locs1 → W p l e R s m args below meth c H1 locs1 (cells + mc) (slots + ms) Q (F0 m (pc + 3) ls (v.toList ++ rest))) : W p l e R s m args below meth c H locs cells slots Q (F0 m pc ls st0) :=
  ms_call (va_runU (As := as) (rest := rest) ⟨X.1, X.2.1, X.2.2.1, X.2.2.2.1, X.2.2.2.2.2.2.1⟩ (hM H.size) (va_cwO as.length X.2.2.2.2.2.2.1 (ms_gs hw) rfl rfl rfl hc0 hd hrm.1) ⟨(ms_pre (as := .ref h :: as) X hP hD hS isC hk.1 hC).1, hv, (ms_pre X hP hD hS isC hk.1 hC).2⟩ rfl rfl hl.1 hst (lv_room hrs) hdg hrm.2) X hP hD hS isC isR hC hR hk.2.1 hk.2.2 kk
theorem ms_SU {cC : ClassId} (hat : ClassAt s C cC) (X : ms_X D tys s0 p s m args meth c A y0 cc n0 ret0) (hl : lv_has ls n0 lv) (hM : ms_C l D s0 y b n ret fr lo mc ms (.ref h :: as) wc Rr) (hw : ∀ w ∈ va_wsSU y0.cls idx y [.code y b n ret], w ∈ ms_tb) (hd : y.name ≠ "<init>" ∧ (parseMethodDescriptor y.desc).map (fun d => d.parameters.length) = some as.length) (hv : ∃ cellB : Cell, H[h]? = some cellB ∧ cellB.vm.isStatics = false ∧ s.vm.findClass C = some cellB.cls)
    (hP : va_P D vwCl ws H) (hD : va_D A ws) (hS : va_S A s.heap H locs) (isC isR : List Nat) (hC : isC.map (fun i => ws[i]?) = wc.map some) (hR : isR.map (fun i => ws[i]?) = wr.map some) (hk : va_nd isC = true ∧ va_nd isR = true ∧ ∀ i ∈ isR, i ∉ isC) (hrm : (fr + 1 ≤ R.frames ∧ 8 + (n + 11) + lo ≤ R.locals) ∧ cells + mc ≤ R.cells ∧ slots + ms ≤ R.slots) (hst : st0 = as.reverse ++ .ref h :: rest) (hrs : (rest.map fun v => v.category).sum ≤ 8) (hdg : decode cc pc = .ok (.invokespecial idx, 3))
    (kk : ∀ (v : Option Value) (w : va_W) (H1 : Heap) (locs1 : List Loc), Rr v w → va_P D vwCl (wr ++ w) H1 → va_D A (wr ++ w) → va_S A s.heap H1 locs1 → W p l e R s m args below meth c H1 locs1 (cells + mc) (slots + ms) Q (F0 m (pc + 3) ls (v.toList ++ rest))) : W p l e R s m args below meth c H locs cells slots Q (F0 m pc ls st0) :=
  ms_call (va_runSU (As := as) (rest := rest) hat ⟨X.1, X.2.1, X.2.2.1, X.2.2.2.1, X.2.2.2.2.2.2.1⟩ (hM H.size) (va_cwSU as.length X.2.2.2.2.2.2.1 (ms_gs hw) rfl rfl rfl hd hrm.1) ⟨(ms_pre (as := .ref h :: as) X hP hD hS isC hk.1 hC).1, hv, (ms_pre X hP hD hS isC hk.1 hC).2⟩ rfl rfl hl.1 hst (lv_room hrs) hdg hrm.2) X hP hD hS isC isR hC hR hk.2.1 hk.2.2 kk
end MSC
section MSN
variable {p : Program} {l : Launch} {e : Env} {R : Room} {s s0 : State} {m : MethodId} {args : Array Value} {below : List Frame} {meth : Method} {c : Code} {H : Heap} {locs : List Loc} {cells slots : Nat} {Q : State → Prop}
variable {cc : ByteArray} {pc : Nat} {ls : Array Slot} {rest : List Value} {D : va_G} {A : Nat → Prop} {ws : va_W} {tys : List (ClassId × FieldType)} {y0 : MethodName} {n0 : Nat} {ret0 : Option FieldType}
theorem ms_top {x y : Int32} (h : x = y) (k : W p l e R s m args below meth c H locs cells slots Q (F0 m pc ls (.int y :: rest))) : W p l e R s m args below meth c H locs cells slots Q (F0 m pc ls (.int x :: rest)) := by
  subst h; exact k
theorem ms_newa {atype : ArrayType} {ty : FieldType} {cA : ClassId} {nm : String} (X : ms_X D tys s0 p s m args meth c A y0 cc n0 ret0) (hk : Cond.arrayClass (newarray.typeOf atype) ∈ ms_tb) (hty : newarray.typeOf atype = ty) (t0 : Nat) (ht : tys[t0]? = some (cA, ty)) (hra : ∀ c', va_RA s c' ty → s.vm.findClass nm = some c') (hP : va_P D vwCl ws H) (hD : va_D A ws) (hS : va_S A s.heap H locs)
    {n : Int32} {N' : Nat} {a0 : vp_A} (ha : ∀ cA : ClassId, vp_cell cA a0 = arrV cA N' (fun _ => defaultValue ty)) (hn : ¬ n < 0) (hN : n.toNatClampNeg = N') (hbytes : N' * componentBytes ty ≤ 536870912) (hcells : cells + 1 ≤ R.cells) (hslots : slots + N' ≤ R.slots) (hdg : decode cc pc = .ok (.newarray atype, 2))
    (kk : ∀ (q : Nat) (H1 : Heap), va_P D vwCl (ws ++ [(q, .inl (cA, a0))]) H1 → va_D A (ws ++ [(q, .inl (cA, a0))]) → va_S A s.heap H1 locs → W p l e R s m args below meth c H1 locs (cells + 1) (slots + N') Q (F0 m (pc + 2) ls (.ref q :: rest))) : W p l e R s m args below meth c H locs cells slots Q (F0 m pc ls (.int n :: rest)) := by
  have hK := X.2.2.2.2.2.2.2.2.1
  refine va_newa X.1 X.2.1 (X.2.2.2.2.2.2.1 _ hk) hty hK hP hD hS X.2.2.2.2.2.2.2.2.2.2 ha hn hN hbytes hcells hslots hdg (fun q c1 H1 hK1 hP1 hD1 hS1 => ?_)
  have h1 := (hK1.2 tys.length (c1, ty) (by simp)).2
  have h2 := (hK.2 t0 (cA, ty) ht).2
  have e := (hra _ h1).symm.trans (hra _ h2)
  cases e
  exact kk q H1 hP1 hD1 hS1
theorem ms_newq {C nm : String} {cA : ClassId} {idx : Nat} (X : ms_X D tys s0 p s m args meth c A y0 cc n0 ret0) (hk : Cond.classLink y0.cls idx C ∈ ms_tb) (hover : va_AO C s) (t0 : Nat) (ht : tys[t0]? = some (cA, .object C)) (hra : ∀ c', va_RA s c' (.object C) → s.vm.findClass nm = some c') (hP : va_P D vwCl ws H) (hD : va_D A ws) (hS : va_S A s.heap H locs)
    {n : Int32} {N' : Nat} (hn : ¬ n < 0) (hN : n.toNatClampNeg = N') (hbytes : N' * 4 ≤ 536870912) (hcells : cells + 1 ≤ R.cells) (hslots : slots + N' ≤ R.slots) (hdg : decode cc pc = .ok (.anewarray idx, 3))
    (kk : ∀ (q : Nat) (H1 : Heap), va_P D vwCl (ws ++ [(q, .inl (cA, N', .inr (.inr (.inr (.inr (fun _ => none))))))]) H1 → va_D A (ws ++ [(q, .inl (cA, N', .inr (.inr (.inr (.inr (fun _ => none))))))]) → va_S A s.heap H1 locs → W p l e R s m args below meth c H1 locs (cells + 1) (slots + N') Q (F0 m (pc + 3) ls (.ref q :: rest))) : W p l e R s m args below meth c H locs cells slots Q (F0 m pc ls (.int n :: rest)) := by
  have hK := X.2.2.2.2.2.2.2.2.1
  refine va_newq X.1 X.2.1 X.2.2.2.1 (X.2.2.2.2.2.2.1 _ hk) hover hK hP hD hS X.2.2.2.2.2.2.2.2.2.2 hn hN hbytes hcells hslots hdg (fun q c1 H1 hK1 hP1 hD1 hS1 => ?_)
  have h1 := (hK1.2 tys.length (c1, .object C) (by simp)).2
  have h2 := (hK.2 t0 (cA, .object C) ht).2
  have e := (hra _ h1).symm.trans (hra _ h2)
  cases e
  exact kk q H1 hP1 hD1 hS1
end MSN
/-- a private method that a class inherits: it is selected whatever the receiver's class; that its class is no interface another method's word says -/
theorem ms_selP {C : String} {y z : MethodName} {s : State} {args : Array Value} (hy : y.cls ≠ "java/lang/invoke/MethodHandle" ∧ y.cls ≠ "java/lang/invoke/VarHandle") (hz : (Cond.selects C z z).before args s = true) (hyz : y.cls = z.cls) (hpriv : (Cond.privateMethod y).before args s = true) (hinst : (Cond.instanceMethod y).before args s = true) : (Cond.selects C y y).before args s = true := by
  obtain ⟨mk, methM, hnamed, hmethM, -, -⟩ := Cond.instanceMethod_spec hinst
  have hfound : s.methodFound? y.cls y.name y.desc = some mk := State.methodFound?_of_named hnamed hy
  have hsel : ∀ c, selectMethod {} s.vm c mk = .method mk := fun c => selectMethod_private hmethM (Cond.privateMethod_at hpriv mk methM hnamed hmethM)
  have hcy := findClass_of_methodNamed hnamed
  simp only [Cond.before, Cond.holds, Cond.value] at hz ⊢
  cases h1 : s.vm.findClass C with
  | none => simp [h1] at hz
  | some c =>
    cases h2 : s.methodFound? z.cls z.name z.desc with
    | none => simp [h1, h2] at hz
    | some r =>
      cases h3 : s.methodNamed? z with
      | none => simp [h1, h2, h3] at hz
      | some m3 =>
        have hcz := findClass_of_methodNamed h3
        have e : m3.cls = mk.cls := Option.some.inj (hcz.symm.trans (by rw [← hyz]; exact hcy))
        simp only [h1, h2, h3, hfound, hnamed, hsel] at hz ⊢
        cases h4 : selectMethod {} s.vm c r with
        | method m4 =>
          simp only [h4] at hz
          rw [e] at hz
          simp at hz ⊢
          exact hz.2
        | _ => simp [h4] at hz
theorem ms_z {D : va_G} {tys : List (ClassId × FieldType)} {s0 s : State} {p : Program} {m : MethodId} {args : Array Value} {meth : Method} {c : Code} {A : Nat → Prop} {y : MethodName} {b : ByteArray} {n : Nat} {ret : Option FieldType} {C nm d : String} {v : Value} (h0 : ∀ B : Nat → Prop, (∀ q, B q → s0.heap.size ≤ q) → va_Z C nm d v B s0 s0.heap) (X : ms_X D tys s0 p s m args meth c A y b n ret) : va_Z C nm d v A s s.heap :=
  (va_Z.moved X.2.2.2.2.2.2.2.1.1.alike (h0 A X.2.2.2.2.2.2.2.2.2.1)).kept (fun a ha _ => X.2.2.2.2.2.2.2.1.2.2 a ha)
