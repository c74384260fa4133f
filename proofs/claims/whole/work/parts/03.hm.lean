-- the heap as a map: what a method knows of it; stores, makings and calls over maps
abbrev hm_T : Type := Nat → Option va_E
def hm_P (D : va_G) (h : hm_T) (H : Heap) : Prop := ∀ (a : Nat) (e : va_E), h a = some e → va_at D vwCl (a, e) H
def hm_u (h : hm_T) (a : Nat) (e : va_E) : hm_T := fun b => if b = a then some e else h b
theorem hm_s {h : hm_T} {a : Nat} {e : va_E} : hm_u h a e a = some e := by simp [hm_u]
theorem hm_n {h : hm_T} {a b : Nat} {e : va_E} (hn : b ≠ a) : hm_u h a e b = h b := by simp [hm_u, hn]
/-- the kind of a cell: its class, or an array's kind -/
def hm_tag (e : va_E) : Nat := match e with
  | .inr o => o.1
  | .inl (_, _, .inl _) => 100
  | .inl (_, _, .inr (.inl _)) => 101
  | .inl (_, _, .inr (.inr (.inl _))) => 102
  | .inl (_, _, .inr (.inr (.inr (.inl _)))) => 103
  | .inl (_, _, .inr (.inr (.inr (.inr _)))) => 104
theorem hm_ne {h : hm_T} {a b : Nat} {e1 e2 : va_E} (h1 : h a = some e1) (h2 : h b = some e2) (ht : Nat.beq (hm_tag e1) (hm_tag e2) = false) : a ≠ b := fun q => by
  subst q
  rw [h1] at h2
  cases h2
  rw [Nat.beq_refl] at ht
  cases ht
theorem hm_nn {h : hm_T} {a b : Nat} {e : va_E} (h1 : h a = some e) (h2 : h b = none) : a ≠ b := fun q => by
  subst q
  rw [h1] at h2
  cases h2
/-- texts that never change: the String at a, its bytes at u, its letters xs -/
abbrev hz_T : Type := Nat → Option (Nat × List Nat)
def st_at (U : State) (H : Heap) (a u : Nat) (xs : List Nat) : Prop := va_O "java/lang/String" a (fun _ => False) U H ∧ va_OF "java/lang/String" "coder" "B" (.int 0) a (fun _ => False) U H ∧ va_OF "java/lang/String" "value" "[B" (.ref u) a (fun _ => False) U H ∧ va_T .byte u xs.length (fun j => .int (nI (xs.getD j 0))) (fun _ => False) U H
theorem st_at.moved {u U : State} (hvm : u.vm.Alike U.vm) {H : Heap} {a b : Nat} {xs : List Nat} (h : st_at u H a b xs) : st_at U H a b xs := ⟨va_O.moved hvm h.1, va_OF.moved hvm h.2.1, va_OF.moved hvm h.2.2.1, va_T.moved hvm h.2.2.2⟩
theorem st_at.lt {U : State} {H : Heap} {a b : Nat} {xs : List Nat} (h : st_at U H a b xs) : a < H.size ∧ b < H.size := by
  obtain ⟨⟨cell, h1, -⟩, -, -, ⟨cell2, h2, -⟩⟩ := h
  exact ⟨(Array.getElem?_eq_some_iff.mp h1).1, (Array.getElem?_eq_some_iff.mp h2).1⟩
theorem st_at.kept {U : State} {H H1 : Heap} {a b : Nat} {xs : List Nat} (h : st_at U H a b xs) (ha : H1[a]? = H[a]?) (hb : H1[b]? = H[b]?) : st_at U H1 a b xs := by
  obtain ⟨⟨cell, g1, g2⟩, ⟨x1, x2, x3, x4, x5, k1, k2, k3, k4⟩, ⟨y1, y2, y3, y4, y5, l1, l2, l3, l4⟩, ⟨cell2, n1, n2⟩⟩ := h
  exact ⟨⟨cell, by rw [ha]; exact g1, g2⟩, ⟨x1, x2, x3, x4, x5, k1, k2, by rw [ha]; exact k3, k4⟩, ⟨y1, y2, y3, y4, y5, l1, l2, by rw [ha]; exact l3, l4⟩, ⟨cell2, by rw [hb]; exact n1, n2⟩⟩
/-- the String constants are among the texts -/
def hz_L (s0 : State) (z : hz_T) : Prop := ∀ (k : Nat) (q : String × Nat × String × List Nat) (a u : Nat), ms_lit[k]? = some q → vk_R q.1 q.2.1 q.2.2.1 a s0 → st_at s0 s0.heap a u q.2.2.2 → z a = some (u, q.2.2.2)
def hz_P (s0 s : State) (h : hm_T) (z : hz_T) (H : Heap) : Prop := (∀ (a u : Nat) (xs : List Nat), z a = some (u, xs) → st_at s H a u xs ∧ h a = none ∧ h u = none) ∧ hz_L s0 z
theorem hz_P.moved {s0 u U : State} (hvm : u.vm.Alike U.vm) {h : hm_T} {z : hz_T} {H : Heap} (hz : hz_P s0 u h z H) : hz_P s0 U h z H := ⟨fun a b xs hx => ⟨(hz.1 a b xs hx).1.moved hvm, (hz.1 a b xs hx).2⟩, hz.2⟩
/-- what a walk holds: the map in the heap; its cells are younger than the law's start; nothing older has changed; the texts -/
def hm_I (D : va_G) (s0 s : State) (h : hm_T) (z : hz_T) (H : Heap) (locs : List Loc) : Prop := hm_P D h H ∧ (∀ (a : Nat) (e : va_E), h a = some e → s0.heap.size ≤ a) ∧ va_S (fun q => s0.heap.size ≤ q) s.heap H locs ∧ hz_P s0 s h z H
theorem hm_one {D : va_G} {h : hm_T} {H : Heap} {a : Nat} {e : va_E} (hP : hm_P D h H) (ha : h a = some e) : va_P D vwCl [(a, e)] H := by
  intro k q hk
  cases k with
  | zero => cases hk; exact hP a e ha
  | succ k => simp at hk
theorem hm_none {D : va_G} {h : hm_T} {H : Heap} {a : Nat} (hP : hm_P D h H) (ha : H.size ≤ a) : h a = none := by
  cases e : h a with
  | none => rfl
  | some x => exact absurd (hP a x e).lt (Nat.not_lt.mpr ha)
theorem hm_set {D : va_G} {s0 s : State} {h : hm_T} {z : hz_T} {H H1 : Heap} {locs : List Loc} {a k : Nat} {e0 e1 : va_E} (I : hm_I D s0 s h z H locs) (ha : h a = some e0) (he : va_at D vwCl (a, e1) H1) (zz : H1.size = H.size) (oq : ∀ q : Nat, q ≠ a → H1[q]? = H[q]?) : hm_I D s0 s (hm_u h a e1) z H1 (locs ++ [⟨a, k⟩]) := by
  refine ⟨fun b e hb => ?_, fun b e hb => ?_, I.2.2.1.put zz oq (I.2.1 a _ ha), fun b u xs hx => ?_, I.2.2.2.2⟩
  · by_cases q : b = a
    · subst q
      rw [hm_s] at hb
      cases hb
      exact he
    · rw [hm_n q] at hb
      exact (I.1 b e hb).kept (oq b q)
  · by_cases q : b = a
    · subst q
      exact I.2.1 _ _ ha
    · rw [hm_n q] at hb
      exact I.2.1 b e hb
  · obtain ⟨g1, g2, g3⟩ := I.2.2.2.1 b u xs hx
    have n1 : b ≠ a := fun q => by rw [q, ha] at g2; cases g2
    have n2 : u ≠ a := fun q => by rw [q, ha] at g3; cases g3
    exact ⟨g1.kept (oq b n1) (oq u n2), by rw [hm_n n1]; exact g2, by rw [hm_n n2]; exact g3⟩
theorem hm_new {D : va_G} {s0 s : State} {h : hm_T} {z : hz_T} {H H1 : Heap} {locs : List Loc} {e1 : va_E} (hB : s0.heap.size ≤ s.heap.size) (I : hm_I D s0 s h z H locs) (he : va_at D vwCl (H.size, e1) H1) (zz : H1.size = H.size + 1) (oq : ∀ q : Nat, q < H.size → H1[q]? = H[q]?) : hm_I D s0 s (hm_u h H.size e1) z H1 locs := by
  refine ⟨fun b e hb => ?_, fun b e hb => ?_, ⟨Nat.le_trans I.2.2.1.1 (by omega), fun x h1 h2 => (oq x (Nat.lt_of_lt_of_le h1 I.2.2.1.1)).trans (I.2.2.1.2.1 x h1 h2), I.2.2.1.2.2⟩, fun b u xs hx => ?_, I.2.2.2.2⟩
  · by_cases q : b = H.size
    · subst q
      rw [hm_s] at hb
      cases hb
      exact he
    · rw [hm_n q] at hb
      exact (I.1 b e hb).kept (oq b (I.1 b e hb).lt)
  · by_cases q : b = H.size
    · subst q
      exact Nat.le_trans hB I.2.2.1.1
    · rw [hm_n q] at hb
      exact I.2.1 b e hb
  · obtain ⟨g1, g2, g3⟩ := I.2.2.2.1 b u xs hx
    have n1 : b ≠ H.size := Nat.ne_of_lt g1.lt.1
    have n2 : u ≠ H.size := Nat.ne_of_lt g1.lt.2
    exact ⟨g1.kept (oq b g1.lt.1) (oq u g1.lt.2), by rw [hm_n n1]; exact g2, by rw [hm_n n2]; exact g3⟩
section HMR
variable {p : Program} {l : Launch} {e : Env} {R : Room} {s s0 : State} {m : MethodId} {args : Array Value} {below : List Frame} {meth : Method} {c : Code} {H : Heap} {locs : List Loc} {cells slots : Nat} {Q : State → Prop}
variable {cc : ByteArray} {pc : Nat} {ls : Array Slot} {rest : List Value} {D : va_G} {h : hm_T} {z : hz_T} {a : Nat} {tys : List (ClassId × FieldType)} {y0 : MethodName} {n0 : Nat} {ret0 : Option FieldType} {A : Nat → Prop}
theorem hm_put (X : ms_X D tys s0 p s m args meth c A y0 cc n0 ret0) (I : hm_I D s0 s h z H locs) {ref C : String} {T : u_T} {N ci index : Nat} (hin : ∀ w ∈ u_ws C T N, w ∈ ms_tb) (ty0 : Nat → FieldType) (hty : ∀ k, k < N → parseFieldDescriptor (T k).2.2.1 = some (ty0 k)) (hnm : ∀ a, a < N → ∀ b, b < N → a ≠ b → (T a).2.1 ≠ (T b).2.1) {fs : List Value} (he : h a = some (.inr (ci, fs))) (hc : vwCl[ci]? = some (C, T, N)) (k : Nat) (hk : k < N) (hlink : Cond.fieldLink y0.cls index ref (T k).2.1 (T k).2.2.1 ∈ ms_tb) (hsame : ∀ x, s.fieldFound? (T k).1 (T k).2.1 (T k).2.2.1 = some x → s.fieldFound? ref (T k).2.1 (T k).2.2.1 = some x) (hfin : (T k).2.2.2 = false) {ty : FieldType} {v : Value} (hd : parseFieldDescriptor (T k).2.2.1 = some ty) (hn : narrow ty v = v) (hfit : fits ty v = true) (hl : k < fs.length)
    (hdg : decode cc pc = .ok (.putfield index, 3)) (kk : ∀ (h1 : hm_T) (H1 : Heap) (locs1 : List Loc), h1 a = some (.inr (ci, fs.set k v)) → (∀ b, b ≠ a → h1 b = h b) → hm_I D s0 s h1 z H1 locs1 → W p l e R s m args below meth c H1 locs1 cells slots Q (F0 m (pc + 3) ls rest)) : W p l e R s m args below meth c H locs cells slots Q (F0 m pc ls (v :: .ref a :: rest)) := by
  have hts := X.2.2.2.2.2.2.1
  have hK := X.2.2.2.2.2.2.2.2.1
  have hap := va_apart (own := y0.cls) hts hin ty0 hty hnm hK hc
  obtain ⟨r, h1, cell, q1, q2, q3, q4⟩ := I.1 a _ he
  have hr : r = (C, T, N) := Option.some.inj (h1.symm.trans hc)
  subst hr
  obtain ⟨hS, hfc, kC, hkC, hkind⟩ := hK.1 ci _ hc
  obtain ⟨cf, kf, fi, f, hi, hsl⟩ := hS k hk
  have hlay := hts _ (hin _ (u_in_lay hk))
  unfold u_lay at hlay
  rw [if_neg (by rw [hfin]; decide)] at hlay
  have hst := (u_facts hfc hkC (u_lays hts hin hk) hi).1
  have h6 := u_store hfc hkC hkind hlay hi hd hn hfit
  refine W.putK X.1 X.2.1 (f := f) ⟨X.2.2.2.1, hts _ hlink, ⟨_, _, _, hsame _ hi⟩, hst⟩ (by rw [q2]; exact h6) q1 q3 (by rw [hsl]; exact k2_hasslot (q4 k hk)) rfl rfl hdg fun H' e1 e2 e3 => ?_
  rw [hsl] at e1 ⊢
  exact kk _ H' _ hm_s (fun b hb => hm_n hb) (hm_set I he ⟨_, hc, t_OB.to (V := updV (vp_V fs) k v) ⟨_, e1, q2, q3, t_set q4 hap hk v⟩ (fun j _ => vp_updV_set hl v j)⟩ e2 e3)
theorem hm_putF (X : ms_X D tys s0 p s m args meth c A y0 cc n0 ret0) (I : hm_I D s0 s h z H locs) {ref C : String} {T : u_T} {N ci index : Nat} (hin : ∀ w ∈ u_ws C T N, w ∈ ms_tb) (ty0 : Nat → FieldType) (hty : ∀ k, k < N → parseFieldDescriptor (T k).2.2.1 = some (ty0 k)) (hnm : ∀ a, a < N → ∀ b, b < N → a ≠ b → (T a).2.1 ≠ (T b).2.1) {fs : List Value} (he : h a = some (.inr (ci, fs))) (hc : vwCl[ci]? = some (C, T, N)) (k : Nat) (hk : k < N) (hlink : Cond.fieldLink y0.cls index ref (T k).2.1 (T k).2.2.1 ∈ ms_tb) (hsame : ∀ x, s.fieldFound? (T k).1 (T k).2.1 (T k).2.2.1 = some x → s.fieldFound? ref (T k).2.1 (T k).2.2.1 = some x) (hfin : (T k).2.2.2 = true) (hin2 : meth.name = "<init>") (hdecl : (T k).1 = y0.cls) {ty : FieldType} {v : Value} (hd : parseFieldDescriptor (T k).2.2.1 = some ty) (hn : narrow ty v = v) (hfit : fits ty v = true) (hl : k < fs.length)
    (hdg : decode cc pc = .ok (.putfield index, 3)) (kk : ∀ (h1 : hm_T) (H1 : Heap) (locs1 : List Loc), h1 a = some (.inr (ci, fs.set k v)) → (∀ b, b ≠ a → h1 b = h b) → hm_I D s0 s h1 z H1 locs1 → W p l e R s m args below meth c H1 locs1 cells slots Q (F0 m (pc + 3) ls rest)) : W p l e R s m args below meth c H locs cells slots Q (F0 m pc ls (v :: .ref a :: rest)) := by
  have hts := X.2.2.2.2.2.2.1
  have hK := X.2.2.2.2.2.2.2.2.1
  have hown := X.2.2.2.1
  have hap := va_apart (own := y0.cls) hts hin ty0 hty hnm hK hc
  obtain ⟨r, h1, cell, q1, q2, q3, q4⟩ := I.1 a _ he
  have hr : r = (C, T, N) := Option.some.inj (h1.symm.trans hc)
  subst hr
  obtain ⟨hS, hfc, kC, hkC, hkind⟩ := hK.1 ci _ hc
  obtain ⟨cf, kf, fi, f, hi, hsl⟩ := hS k hk
  have hlay := hts _ (hin _ (u_in_lay hk))
  unfold u_lay at hlay
  rw [if_pos hfin] at hlay
  have hst := (u_facts hfc hkC (u_lays hts hin hk) hi).1
  have hcf : m.cls = cf := by
    obtain ⟨_, _, c', _, _, _, -, -, hf', -, -, -, hown2, -⟩ := Cond.laysFinal_spec hlay
    have e1 : c' = cf := by have := hi.symm.trans hf'; simp at this; exact this.1.symm
    rw [hdecl] at hown2
    rw [← e1]; exact Option.some.inj (hown.symm.trans hown2)
  have h6 := u_fits hfc hkC hkind (Or.inr hlay) hi hd hn hfit
  refine W.putFinK X.1 X.2.1 hown (hts _ hlink) (hsame _ hi) hst hcf hin2 (by rw [q2]; exact h6) q1 q3 (by rw [hsl]; exact k2_hasslot (q4 k hk)) rfl rfl hdg fun H' e1 e2 e3 => ?_
  rw [hsl] at e1 ⊢
  exact kk _ H' _ hm_s (fun b hb => hm_n hb) (hm_set I he ⟨_, hc, t_OB.to (V := updV (vp_V fs) k v) ⟨_, e1, q2, q3, t_set q4 hap hk v⟩ (fun j _ => vp_updV_set hl v j)⟩ e2 e3)
theorem hm_mk (X : ms_X D tys s0 p s m args meth c A y0 cc n0 ret0) (I : hm_I D s0 s h z H locs) {C : String} {T : u_T} {N ci index : Nat} (hin : ∀ w ∈ u_ws C T N, w ∈ ms_tb) (ty : Nat → FieldType) (hty : ∀ k, k < N → parseFieldDescriptor (T k).2.2.1 = some (ty k)) (hw : ∀ w ∈ ([.classLink y0.cls index C, .instantiable C N, .initialized C] : List Cond), w ∈ ms_tb) (hc : vwCl[ci]? = some (C, T, N)) {fs : List Value} (hfs : ∀ j, j < N → defaultValue (ty j) = vp_V fs j) (hcells : cells + 1 ≤ R.cells) (hslots : slots + N ≤ R.slots) (hdg : decode cc pc = .ok (.new index, 3))
    (kk : ∀ (q : Nat) (h1 : hm_T) (H1 : Heap), h q = none → h1 q = some (.inr (ci, fs)) → (∀ b, b ≠ q → h1 b = h b) → hm_I D s0 s h1 z H1 locs → W p l e R s m args below meth c H1 locs (cells + 1) (slots + N) Q (F0 m (pc + 3) ls (.ref q :: rest))) : W p l e R s m args below meth c H locs cells slots Q (F0 m pc ls rest) := by
  have hts := X.2.2.2.2.2.2.1
  have hK := X.2.2.2.2.2.2.2.2.1
  have hKn := hK.1 ci _ hc
  refine W.newcK X.1 X.2.1 X.2.2.2.1 (hts _ (hw _ (by simp))) (hts _ (hw _ (by simp))) (hts _ (hw _ (by simp))) rfl hdg hcells hslots hKn.2.1 rfl fun H1 kC hkC e1 z1 o1 => ?_
  exact kk H.size _ H1 (hm_none I.1 (Nat.le_refl _)) hm_s (fun b hb => hm_n hb) (hm_new X.2.2.2.2.2.2.2.1.2.1 I ⟨_, hc, (u_born ty hts hin hKn hkC e1 hty).to hfs⟩ z1 o1)
theorem hm_mka {atype : ArrayType} {ty : FieldType} {cA : ClassId} {nm : String} (X : ms_X D tys s0 p s m args meth c A y0 cc n0 ret0) (I : hm_I D s0 s h z H locs) (hk : Cond.arrayClass (newarray.typeOf atype) ∈ ms_tb) (hty : newarray.typeOf atype = ty) (t0 : Nat) (ht : tys[t0]? = some (cA, ty)) (hra : ∀ c', va_RA s c' ty → s.vm.findClass nm = some c') (hnm : "[" ++ (newarray.typeOf atype).toString = nm)
    {n : Int32} {N' : Nat} {a0 : vp_A} (ha : ∀ cA : ClassId, vp_cell cA a0 = arrV cA N' (fun _ => defaultValue ty)) (hn : ¬ n < 0) (hN : n.toNatClampNeg = N') (hbytes : N' * componentBytes ty ≤ 536870912) (hcells : cells + 1 ≤ R.cells) (hslots : slots + N' ≤ R.slots) (hdg : decode cc pc = .ok (.newarray atype, 2))
    (kk : ∀ (q : Nat) (h1 : hm_T) (H1 : Heap), h q = none → h1 q = some (.inl (cA, a0)) → (∀ b, b ≠ q → h1 b = h b) → hm_I D s0 s h1 z H1 locs → W p l e R s m args below meth c H1 locs (cells + 1) (slots + N') Q (F0 m (pc + 2) ls (.ref q :: rest))) : W p l e R s m args below meth c H locs cells slots Q (F0 m pc ls (.int n :: rest)) := by
  have hK := X.2.2.2.2.2.2.2.2.1
  subst hty
  refine va_newaK X.1 X.2.1 (X.2.2.2.2.2.2.1 _ hk) rfl hdg rfl hn hN hbytes hcells hslots rfl fun H1 c1 e1 z1 o1 hAr hNm => ?_
  have h2 := hra _ (hK.2 t0 (cA, _) ht).2
  rw [hnm] at hNm
  have e := hNm.symm.trans h2
  cases e
  refine kk H.size _ H1 (hm_none I.1 (Nat.le_refl _)) hm_s (fun b hb => hm_n hb) (hm_new X.2.2.2.2.2.2.2.1.2.1 I ?_ z1 o1)
  show H1[H.size]? = some (vp_cell _ _)
  rw [ha]
  exact e1
theorem hm_iast (X : ms_X D tys s0 p s m args meth c A y0 cc n0 ret0) (I : hm_I D s0 s h z H locs) (t0 : Nat) {cA : ClassId} {n : Nat} {f : Nat → Int32} (ha : h a = some (.inl (cA, n, .inl f))) (ht : tys[t0]? = some (cA, .int)) {i x : Int32} (hin : vp_in i n) (hdg : decode cc pc = .ok (.iastore, 1))
    (kk : ∀ (h1 : hm_T) (H1 : Heap) (locs1 : List Loc), h1 a = some (.inl (cA, n, .inl (upd f i.toNatClampNeg x))) → (∀ b, b ≠ a → h1 b = h b) → hm_I D s0 s h1 z H1 locs1 → W p l e R s m args below meth c H1 locs1 cells slots Q (F0 m (pc + 1) ls rest)) : W p l e R s m args below meth c H locs cells slots Q (F0 m pc ls (.int x :: .int i :: .ref a :: rest)) := by
  have hK := X.2.2.2.2.2.2.2.2.1
  refine W.iast X.1 X.2.1 (I.1 a _ ha) ((hK.2 t0 _ ht).1 n (fun j => .int (f j))) (fun q => by cases q) (by show ¬ (i < 0 ∨ (arrV _ _ _).slots.size ≤ _); rw [arrV_size]; exact hin) rfl rfl hdg fun H1 e z9 oq => ?_
  refine kk _ H1 _ hm_s (fun b hb => hm_n hb) (hm_set I ha ?_ z9 oq)
  show H1[a]? = some (vp_cell _ _)
  rw [e, vp_cell_i, vp_cell_i, arrV_store]
  congr 2
  funext q
  by_cases hq : q = i.toNatClampNeg
  · subst hq
    simp [updV, upd]
  · simp [updV, upd, hq]
theorem hm_aast (X : ms_X D tys s0 p s m args meth c A y0 cc n0 ret0) (I : hm_I D s0 s h z H locs) (t0 : Nat) {E : String} {cA : ClassId} {n v : Nat} {f : Nat → Option Nat} (ha : h a = some (.inl (cA, n, .inr (.inr (.inr (.inr f)))))) (ht : tys[t0]? = some (cA, .object E)) (hr : va_Any E s H v) {i : Int32} (hin : vp_in i n) (hdg : decode cc pc = .ok (.aastore, 1))
    (kk : ∀ (h1 : hm_T) (H1 : Heap) (locs1 : List Loc), h1 a = some (.inl (cA, n, .inr (.inr (.inr (.inr (va_up f i.toNatClampNeg (some v))))))) → (∀ b, b ≠ a → h1 b = h b) → hm_I D s0 s h1 z H1 locs1 → W p l e R s m args below meth c H1 locs1 cells slots Q (F0 m (pc + 1) ls rest)) : W p l e R s m args below meth c H locs cells slots Q (F0 m pc ls (.ref v :: .int i :: .ref a :: rest)) := by
  have hK := X.2.2.2.2.2.2.2.2.1
  have hlt : i.toNatClampNeg < n := Nat.not_le.mp fun q => hin (Or.inr q)
  have h0 : ¬ i < 0 := fun q => hin (Or.inl q)
  obtain ⟨cellV, g1, g3, ⟨kC, hkC⟩, hasg⟩ := hr
  obtain ⟨kA, comp, k1, k2, k3, -⟩ := (hK.2 t0 _ ht).2
  obtain ⟨kE, hkE, -⟩ := Vm.findClass_spec k3
  refine W.aast X.1 X.2.1 (I.1 a _ ha) (fun q h => by cases h) (fun h => by cases h) k1 k2 rfl hkE ⟨h0, by show _ < (arrV _ _ _).slots.size; rw [arrV_size]; exact hlt⟩ g1 (fun q h => by rw [h] at g3; cases g3) hkC (hasg _ k3) rfl rfl hdg fun H1 e z9 oq => ?_
  refine kk _ H1 _ hm_s (fun b hb => hm_n hb) (hm_set I ha ?_ z9 oq)
  show H1[a]? = some (vp_cell _ _)
  rw [e, vp_cell_q, vp_cell_q, arrV_store]
  congr 2
  funext q
  by_cases hq : q = i.toNatClampNeg
  · subst hq
    simp [updV, va_up, va_rf]
  · simp [updV, va_up, hq]
theorem hz_val {u : Nat} {xs : List Nat} (X : ms_X D tys s0 p s m args meth c A y0 cc n0 ret0) (I : hm_I D s0 s h z H locs) (hz : z a = some (u, xs)) {idx : Nat} (hk : Cond.fieldLink y0.cls idx "java/lang/String" "value" "[B" ∈ ms_tb) (hdg : decode cc pc = .ok (.getfield idx, 3)) (kk : W p l e R s m args below meth c H locs cells slots Q (F0 m (pc + 3) ls (.ref u :: rest))) : W p l e R s m args below meth c H locs cells slots Q (F0 m pc ls (.ref a :: rest)) := by
  obtain ⟨cf, k, fi, f, cell, h1, h2, h3, h4, h5, -⟩ := (I.2.2.2.1 a u xs hz).1.2.2.1
  exact W.getf X.1 X.2.1 X.2.2.2.1 (X.2.2.2.2.2.2.1 _ hk) h1 h2 h3 h4 h5 rfl rfl hdg kk
theorem hz_cod {u : Nat} {xs : List Nat} (X : ms_X D tys s0 p s m args meth c A y0 cc n0 ret0) (I : hm_I D s0 s h z H locs) (hz : z a = some (u, xs)) {idx : Nat} (hk : Cond.fieldLink y0.cls idx "java/lang/String" "coder" "B" ∈ ms_tb) (hdg : decode cc pc = .ok (.getfield idx, 3)) (kk : W p l e R s m args below meth c H locs cells slots Q (F0 m (pc + 3) ls (.int 0 :: rest))) : W p l e R s m args below meth c H locs cells slots Q (F0 m pc ls (.ref a :: rest)) := by
  obtain ⟨cf, k, fi, f, cell, h1, h2, h3, h4, h5, -⟩ := (I.2.2.2.1 a u xs hz).1.2.1
  exact W.getf X.1 X.2.1 X.2.2.2.1 (X.2.2.2.2.2.2.1 _ hk) h1 h2 h3 h4 h5 rfl rfl hdg kk
theorem hz_len {u : Nat} {xs : List Nat} (X : ms_X D tys s0 p s m args meth c A y0 cc n0 ret0) (I : hm_I D s0 s h z H locs) (hz : z a = some (u, xs)) (hdg : decode cc pc = .ok (.arraylength, 1)) (kk : W p l e R s m args below meth c H locs cells slots Q (F0 m (pc + 1) ls (.int (nI xs.length) :: rest))) : W p l e R s m args below meth c H locs cells slots Q (F0 m pc ls (.ref u :: rest)) := by
  obtain ⟨cell, h1, h2, h3, h4, h5, h6, -⟩ := (I.2.2.2.1 a u xs hz).1.2.2.2
  exact W.alen X.1 X.2.1 h1 h2 h5 rfl rfl hdg kk
theorem hz_ald {u i : Nat} {xs : List Nat} (X : ms_X D tys s0 p s m args meth c A y0 cc n0 ret0) (I : hm_I D s0 s h z H locs) (hz : z a = some (u, xs)) (hi : i < xs.length) (hs : i < 2 ^ 31) (hdg : decode cc pc = .ok (.baload, 1)) (kk : W p l e R s m args below meth c H locs cells slots Q (F0 m (pc + 1) ls (.int (nI (xs.getD i 0)) :: rest))) : W p l e R s m args below meth c H locs cells slots Q (F0 m pc ls (.int (nI i) :: .ref u :: rest)) := by
  obtain ⟨cell, h1, h2, h3, h4, h5, h6, -⟩ := (I.2.2.2.1 a u xs hz).1.2.2.2
  refine W.bald X.1 X.2.1 h1 h2 h3 ?_ ?_ rfl rfl hdg kk
  · rintro (q | q)
    · exact nI_pos hs q
    · rw [nI_clamp hs] at q; omega
  · rw [nI_clamp hs]; exact h6 i hi
theorem hz_recv {u : Nat} {xs : List Nat} (I : hm_I D s0 s h z H locs) (hz : z a = some (u, xs)) : ∃ cellB : Cell, H[a]? = some cellB ∧ cellB.vm.isStatics = false ∧ s.vm.findClass "java/lang/String" = some cellB.cls := by
  obtain ⟨cell, h1, h2, h3, -⟩ := (I.2.2.2.1 a u xs hz).1.1
  exact ⟨cell, h1, h2, h3⟩
theorem hm_recv {ci : Nat} {q : vw_C} {fs : List Value} (hK : va_K D vwCl tys s) (I : hm_I D s0 s h z H locs) (hc : vwCl[ci]? = some q) (he : h a = some (.inr (ci, fs))) : ∃ cellB : Cell, H[a]? = some cellB ∧ cellB.vm.isStatics = false ∧ s.vm.findClass q.1 = some cellB.cls := va_recv (q0 := 0) hK (hm_one I.1 he) hc rfl
end HMR
/-- a contract over maps -/
def ht_Q (D : va_G) (s0 : State) (Post : Option Value → hm_T → hz_T → Prop) : Array Value → State → Outcome → State → Prop := fun _ st oc t => (∃ (v : Option Value) (h : hm_T) (z : hz_T), oc = .returned v ∧ Post v h z ∧ hm_P D h t.heap ∧ (∀ (a : Nat) (e : va_E), h a = some e → s0.heap.size ≤ a) ∧ hz_P s0 t h z t.heap) ∧ va_F (fun q => s0.heap.size ≤ q) st t
def ht_Pre (D : va_G) (s0 : State) (h : hm_T) (z : hz_T) : State → Prop := fun U => hm_P D h U.heap ∧ (∀ (a : Nat) (e : va_E), h a = some e → s0.heap.size ≤ a) ∧ hz_P s0 U h z U.heap ∧ ms_Bs s0 U
def ht_C (l : Launch) (D : va_G) (s0 : State) (y : MethodName) (b : ByteArray) (n : Nat) (ret : Option FieldType) (fr lo mc ms : Nat) (as : List Value) (Pre : hm_T → hz_T → Prop) (Post : hm_T → hz_T → Option Value → hm_T → hz_T → Prop) : Prop :=
  ∀ (h : hm_T) (z : hz_T), Pre h z → Met l y [.code y b n ret] { frames := fr, cells := mc, slots := ms, locals := lo } (va_Pc as (ht_Pre D s0 h z)) (ht_Q D s0 (Post h z)) mc ms (fun q => s0.heap.size ≤ q)
theorem ht_C.mk {l : Launch} {D : va_G} {tys : List (ClassId × FieldType)} {s0 : State} {y : MethodName} {b : ByteArray} {n : Nat} {ret : Option FieldType} {fr lo mc ms : Nat} {as : List Value} {Pre : hm_T → hz_T → Prop} {Post : hm_T → hz_T → Option Value → hm_T → hz_T → Prop} (hE : ms_E D tys s0) (hy : plainName y.cls = true) (hn : (lg_sl as).length ≤ n) (lv : List (Nat × Value)) (hlv : lv_args 0 as = lv)
    (body : ∀ (p : Program) (e : Env) (s : State) (m : MethodId) (below : List Frame) (meth : Method) (c : Code) (ls : Array Slot) (h : hm_T) (z : hz_T), ms_X D tys s0 p s m as.toArray meth c (fun q => s0.heap.size ≤ q) y b n ret → meth.name = y.name → Pre h z → hm_I D s0 s h z s.heap [] → lv_has ls n lv →
      W p l e { frames := fr, cells := mc, slots := ms, locals := lo } s m as.toArray below meth c s.heap [] 0 0 (MQ below (ht_Q D s0 (Post h z)) as.toArray s mc ms (fun q => s0.heap.size ≤ q)) (F0 m 0 ls [])) : ht_C l D s0 y b n ret fr lo mc ms as Pre Post := by
  intro h z hpre
  refine Met.ofW (cc := b) (maxL := n) (ret := ret) hy rfl ?_
  intro p e s m args below meth c s₁ B hml hv
  obtain ⟨rfl, hP, hB0, hZ, hB⟩ := hv
  have hl := lv_entry as (n := n) hn
  rw [hlv] at hl
  rw [lg_entry_eq]
  exact body p e s m below meth c _ h z ⟨B.exec, B.bytes, hml, findClass_of_methodNamed B.named, B.returns, B.notSynchronized, ms_words hE hB _, hB, va_K.moved hB.1.alike hE.2, fun _ h => h, fun q h => Nat.le_trans hB.2.1 h⟩ (name_of_methodNamed B.named B.method).1 hpre ⟨hP, hB0, va_S.rf, hZ⟩ hl
/-- the cells ws are in the map, apart -/
def hm_has (h : hm_T) (ws : va_W) : Prop := (∀ (k : Nat) (q : Nat × va_E), ws[k]? = some q → h q.1 = some q.2) ∧ ∀ (i j : Nat) (p q : Nat × va_E), ws[i]? = some p → ws[j]? = some q → p.1 = q.1 → i = j
/-- behind a method that had the cells ws and left the cells w -/
def hm_aft (h : hm_T) (ws w : va_W) (h1 : hm_T) : Prop := (∀ (k : Nat) (q : Nat × va_E), w[k]? = some q → h1 q.1 = some q.2 ∧ ((∃ (j : Nat) (e : va_E), ws[j]? = some (q.1, e)) ∨ h q.1 = none)) ∧ (∀ (i j : Nat) (p q : Nat × va_E), w[i]? = some p → w[j]? = some q → p.1 = q.1 → i = j) ∧ ∀ (a : Nat) (e : va_E), h a = some e → (∀ (j : Nat) (q : Nat × va_E), ws[j]? = some q → q.1 ≠ a) → h1 a = some e
theorem hm_has1 {h : hm_T} {a : Nat} {e : va_E} (c : h a = some e) : hm_has h [(a, e)] := by
  refine ⟨fun k q hk => ?_, fun i j p q hi hj _ => ?_⟩
  · cases k with
    | zero => cases hk; exact c
    | succ k => simp at hk
  · have := (List.getElem?_eq_some_iff.mp hi).1
    have := (List.getElem?_eq_some_iff.mp hj).1
    simp at *
    omega
theorem hm_has2 {h : hm_T} {a b : Nat} {e f : va_E} (c : h a = some e) (d : h b = some f) (n : a ≠ b) : hm_has h [(a, e), (b, f)] := by
  refine ⟨fun k q hk => ?_, fun i j p q hi hj hpq => ?_⟩
  · match k, hk with
    | 0, hk => cases hk; exact c
    | 1, hk => cases hk; exact d
    | k + 2, hk => simp at hk
  · match i, j, hi, hj with
    | 0, 0, _, _ => rfl
    | 1, 1, _, _ => rfl
    | 0, 1, hi, hj => cases hi; cases hj; exact absurd hpq n
    | 1, 0, hi, hj => cases hi; cases hj; exact absurd hpq.symm n
    | i + 2, _, hi, _ => simp at hi
    | _, j + 2, _, hj => simp at hj
theorem hm_off1 {a b : Nat} {e : va_E} (n : a ≠ b) : ∀ (j : Nat) (q : Nat × va_E), [(a, e)][j]? = some q → q.1 ≠ b := by
  intro j q hj
  match j, hj with
  | 0, hj => cases hj; exact n
  | j + 1, hj => simp at hj
theorem hm_off2 {a a2 b : Nat} {e e2 : va_E} (n : a ≠ b) (n2 : a2 ≠ b) : ∀ (j : Nat) (q : Nat × va_E), [(a, e), (a2, e2)][j]? = some q → q.1 ≠ b := by
  intro j q hj
  match j, hj with
  | 0, hj => cases hj; exact n
  | 1, hj => cases hj; exact n2
  | j + 2, hj => simp at hj
theorem ms_C.lift {l : Launch} {D : va_G} {s0 : State} {y : MethodName} {b : ByteArray} {n : Nat} {ret : Option FieldType} {fr lo mc ms : Nat} {as : List Value} {ws : va_W} {Rr : Option Value → va_W → Prop} (hM : ms_C l D s0 y b n ret fr lo mc ms as ws Rr) : ht_C l D s0 y b n ret fr lo mc ms as (fun h _ => hm_has h ws) (fun h z v h1 z1 => ∃ w, Rr v w ∧ hm_aft h ws w h1 ∧ z1 = z) := by
  intro h z hh p e ha hc hk s m args below hf happ hpre _
  obtain ⟨hargs, hP, hB0, hZ, hB⟩ := hpre
  have hPw : va_P D vwCl ws s.heap := fun k q hq => hP q.1 q.2 (hh.1 k q hq)
  obtain ⟨k, o, g1, g2, g3, ⟨⟨⟨v, w, ho, hR, hPw1, hDw1⟩, hF⟩, L, hL, hLf⟩⟩ := hM s.heap.size p e ha hc hk s m args below hf happ ⟨hargs, rfl, hPw, ⟨hh.2, fun k q hq => hB0 _ _ (hh.1 k q hq)⟩, hB⟩ trivial
  have hbase : ∀ q, va_A ws s.heap.size q → s0.heap.size ≤ q := by
    intro q hq
    rcases hq with ⟨k, x, hq⟩ | hq
    · exact hB0 _ _ (hh.1 k _ hq)
    · exact Nat.le_trans hB.2.1 hq
  have hnew : ∀ (k : Nat) (q : Nat × va_E), w[k]? = some q → (∃ (j : Nat) (e : va_E), ws[j]? = some (q.1, e)) ∨ h q.1 = none := by
    intro k q hq
    rcases hDw1.2 k q hq with ⟨j, x, hj⟩ | hj
    · exact Or.inl ⟨j, x, hj⟩
    · exact Or.inr (hm_none hP hj)
  refine ⟨k, o, g1, g2, g3, ⟨⟨v, fun a => match w.find? (fun q => q.1 == a) with | some q => some q.2 | none => if ws.any (fun q => q.1 == a) then none else h a, z, ho, ⟨w, hR, ⟨?_, hDw1.1, ?_⟩, rfl⟩, ?_, ?_, ?_⟩, hF.1, fun q h1 h2 => hF.2 q h1 (fun h3 => h2 (hbase q h3))⟩, L, hL, fun q hq => hbase _ (hLf q hq)⟩
  · intro j q hq
    refine ⟨?_, hnew j q hq⟩
    cases hfd : w.find? (fun x => x.1 == q.1) with
    | none =>
      have := List.find?_eq_none.mp hfd q (List.mem_of_getElem? hq)
      simp at this
    | some x =>
      have hx := List.find?_some hfd
      obtain ⟨i, hi⟩ := List.getElem?_of_mem (List.mem_of_find?_eq_some hfd)
      have hxq : x.1 = q.1 := by simpa using hx
      have hij := hDw1.1 i j x q hi hq hxq
      subst hij
      rw [hi] at hq
      cases hq
      simp only [hfd]
  · intro a x hx hne
    have hw : w.find? (fun q => q.1 == a) = none := by
      refine List.find?_eq_none.mpr fun q hq hqa => ?_
      obtain ⟨i, hi⟩ := List.getElem?_of_mem hq
      have hqa' : q.1 = a := by simpa using hqa
      rcases hnew i q hi with ⟨j, x', hj⟩ | hj
      · exact hne j _ hj hqa'
      · rw [hqa', hx] at hj
        cases hj
    have hws : ws.any (fun q => q.1 == a) = false := by
      refine List.any_eq_false.mpr fun q hq hqa => ?_
      obtain ⟨i, hi⟩ := List.getElem?_of_mem hq
      exact hne i q hi (by simpa using hqa)
    simp only [hw, hws]
    simpa using hx
  · intro a x hx
    cases hfd : w.find? (fun q => q.1 == a) with
    | some q =>
      simp only [hfd] at hx
      cases hx
      obtain ⟨i, hi⟩ := List.getElem?_of_mem (List.mem_of_find?_eq_some hfd)
      have hq1 : q.1 = a := by simpa using List.find?_some hfd
      rw [← hq1]
      exact hPw1 i q hi
    | none =>
      simp only [hfd] at hx
      by_cases hany : ws.any (fun q => q.1 == a) = true
      · simp [hany] at hx
      · simp only [hany] at hx
        have hx' : h a = some x := by simpa using hx
        have hlt := (hP a x hx').lt
        refine (hP a x hx').kept (hF.2 a hlt ?_)
        rintro (⟨j, x', hj⟩ | hj)
        · exact hany (List.any_eq_true.mpr ⟨_, List.mem_of_getElem? hj, by simp⟩)
        · exact absurd hlt (Nat.not_lt.mpr hj)
  · intro a x hx
    cases hfd : w.find? (fun q => q.1 == a) with
    | some q =>
      obtain ⟨i, hi⟩ := List.getElem?_of_mem (List.mem_of_find?_eq_some hfd)
      have hq1 : q.1 = a := by simpa using List.find?_some hfd
      rw [← hq1]
      exact hbase _ (hDw1.2 i q hi)
    | none =>
      simp only [hfd] at hx
      by_cases hany : ws.any (fun q => q.1 == a) = true
      · simp [hany] at hx
      · simp only [hany] at hx
        exact hB0 a x (by simpa using hx)
  · have hal := hL.2.1.alike
    refine ⟨fun a u xs hx => ?_, hZ.2⟩
    obtain ⟨g1, g2, g3⟩ := hZ.1 a u xs hx
    have off : ∀ q, q < s.heap.size → h q = none → ¬ va_A ws s.heap.size q := by
      rintro q hq hn (⟨j, x', hj⟩ | hj)
      · rw [hh.1 j _ hj] at hn; cases hn
      · omega
    have gone : ∀ q, q < s.heap.size → h q = none → (match w.find? (fun x => x.1 == q) with | some x => some x.2 | none => if ws.any (fun x => x.1 == q) then none else h q) = none := by
      intro q hq hn
      cases hfd : w.find? (fun x => x.1 == q) with
      | some x =>
        obtain ⟨i, hi⟩ := List.getElem?_of_mem (List.mem_of_find?_eq_some hfd)
        have hx1 : x.1 = q := by simpa using List.find?_some hfd
        have := hDw1.2 i x hi
        rw [hx1] at this
        exact absurd this (off q hq hn)
      | none =>
        simp only [hn]
        split <;> rfl
    exact ⟨(g1.moved hal).kept (hF.2 a g1.lt.1 (off a g1.lt.1 g2)) (hF.2 u g1.lt.2 (off u g1.lt.2 g3)), gone a g1.lt.1 g2, gone u g1.lt.2 g3⟩
section HTW
variable {p : Program} {l : Launch} {e : Env} {R : Room} {s s0 : State} {m : MethodId} {args : Array Value} {below : List Frame} {meth : Method} {c : Code} {H : Heap} {locs : List Loc} {cells slots : Nat} {Q : State → Prop}
variable {cc : ByteArray} {pc : Nat} {ls : Array Slot} {rest st0 : List Value} {D : va_G} {h : hm_T} {z : hz_T} {mc ms : Nat} {tys : List (ClassId × FieldType)} {y0 : MethodName} {n0 : Nat} {ret0 : Option FieldType} {lv : List (Nat × Value)} {Po : Option Value → hm_T → hz_T → Prop}
theorem ht_vret (X : ms_X D tys s0 p s m args meth c (fun q => s0.heap.size ≤ q) y0 cc n0 none) (hdg : decode cc pc = .ok (.return_, 1)) (I : hm_I D s0 s h z H locs) (h1 : cells ≤ mc) (h2 : slots ≤ ms) (hR : Po none h z) : W p l e R s m args below meth c H locs cells slots (MQ below (ht_Q D s0 Po) args s mc ms (fun q => s0.heap.size ≤ q)) (F0 m pc ls []) :=
  W.widen h1 h2 (W.vret X.1 X.2.1 X.2.2.2.2.1 (fun _ ht hW => ⟨⟨none, h, z, rfl, hR, by rw [ht]; exact I.1, I.2.1, by rw [ht]; exact I.2.2.2.moved hW.alike⟩, I.2.2.1.F ht⟩) I.2.2.1.2.2 hdg X.2.2.2.2.2.1)
theorem ht_iret {v : Int32} (X : ms_X D tys s0 p s m args meth c (fun q => s0.heap.size ≤ q) y0 cc n0 (some .int)) (hdg : decode cc pc = .ok (.ireturn, 1)) (I : hm_I D s0 s h z H locs) (h1 : cells ≤ mc) (h2 : slots ≤ ms) (hR : Po (some (.int v)) h z) : W p l e R s m args below meth c H locs cells slots (MQ below (ht_Q D s0 Po) args s mc ms (fun q => s0.heap.size ≤ q)) (F0 m pc ls [.int v]) :=
  W.widen h1 h2 (W.iret X.1 X.2.1 X.2.2.2.2.1 (fun _ ht hW => ⟨⟨some (.int v), h, z, rfl, hR, by rw [ht]; exact I.1, I.2.1, by rw [ht]; exact I.2.2.2.moved hW.alike⟩, I.2.2.1.F ht⟩) I.2.2.1.2.2 hdg X.2.2.2.2.2.1)
theorem ht_zret {v : Int32} {ty : FieldType} (X : ms_X D tys s0 p s m args meth c (fun q => s0.heap.size ≤ q) y0 cc n0 (some ty)) (hdg : decode cc pc = .ok (.ireturn, 1)) (I : hm_I D s0 s h z H locs) (h1 : cells ≤ mc) (h2 : slots ≤ ms) (hR : Po (some (.int v)) h z) (hn : narrow ty (.int v) = .int v) : W p l e R s m args below meth c H locs cells slots (MQ below (ht_Q D s0 Po) args s mc ms (fun q => s0.heap.size ≤ q)) (F0 m pc ls [.int v]) :=
  W.widen h1 h2 (W.zret X.1 X.2.1 X.2.2.2.2.1 hn (fun _ ht hW => ⟨⟨some (.int v), h, z, rfl, hR, by rw [ht]; exact I.1, I.2.1, by rw [ht]; exact I.2.2.2.moved hW.alike⟩, I.2.2.1.F ht⟩) I.2.2.1.2.2 hdg X.2.2.2.2.2.1)
theorem ht_lret {v : Int64} (X : ms_X D tys s0 p s m args meth c (fun q => s0.heap.size ≤ q) y0 cc n0 (some .long)) (hdg : decode cc pc = .ok (.lreturn, 1)) (I : hm_I D s0 s h z H locs) (h1 : cells ≤ mc) (h2 : slots ≤ ms) (hR : Po (some (.long v)) h z) : W p l e R s m args below meth c H locs cells slots (MQ below (ht_Q D s0 Po) args s mc ms (fun q => s0.heap.size ≤ q)) (F0 m pc ls [.long v]) :=
  W.widen h1 h2 (W.lret X.1 X.2.1 X.2.2.2.2.1 (fun _ ht hW => ⟨⟨some (.long v), h, z, rfl, hR, by rw [ht]; exact I.1, I.2.1, by rw [ht]; exact I.2.2.2.moved hW.alike⟩, I.2.2.1.F ht⟩) I.2.2.1.2.2 hdg X.2.2.2.2.2.1)
theorem ht_aret {v : Value} {rt : FieldType} (X : ms_X D tys s0 p s m args meth c (fun q => s0.heap.size ≤ q) y0 cc n0 (some rt)) (hdg : decode cc pc = .ok (.areturn, 1)) (I : hm_I D s0 s h z H locs) (h1 : cells ≤ mc) (h2 : slots ≤ ms) (hR : Po (some v) h z) (hrt : (∃ n, rt = .object n) ∨ ∃ t, rt = .array t) (hv : v = .null ∨ ∃ a, v = .ref a) : W p l e R s m args below meth c H locs cells slots (MQ below (ht_Q D s0 Po) args s mc ms (fun q => s0.heap.size ≤ q)) (F0 m pc ls [v]) :=
  W.widen h1 h2 (W.aret X.1 X.2.1 X.2.2.2.2.1 hrt hv (fun _ ht hW => ⟨⟨some v, h, z, rfl, hR, by rw [ht]; exact I.1, I.2.1, by rw [ht]; exact I.2.2.2.moved hW.alike⟩, I.2.2.1.F ht⟩) I.2.2.1.2.2 hdg X.2.2.2.2.2.1)
theorem ht_go {a : Array Value} (hr : va_Run p l e R s m args below meth c H locs cells slots mc ms (F0 m pc ls st0) rest (ht_Q D s0 Po a) (fun q => s0.heap.size ≤ q)) (I : hm_I D s0 s h z H locs)
    (kk : ∀ (v : Option Value) (h1 : hm_T) (z1 : hz_T) (H1 : Heap) (locs1 : List Loc), Po v h1 z1 → hm_I D s0 s h1 z1 H1 locs1 → W p l e R s m args below meth c H1 locs1 (cells + mc) (slots + ms) Q (F0 m (pc + 3) ls (v.toList ++ rest))) : W p l e R s m args below meth c H locs cells slots Q (F0 m pc ls st0) := by
  intro T hT X
  obtain ⟨v, st₀, t, T', L, h0, X', hL, e1, e2, ⟨⟨v', w, z1, hv, hp, hPw, hDw, hZw⟩, hz, hk⟩, st⟩ := hr T hT X
  cases hv
  rw [h0] at hz hk
  have hS := I.2.2.1
  have hal : t.vm.Alike s.vm := by rw [← e2]; exact X'.warmed.alike.symm
  obtain ⟨t2, a1, b1⟩ := kk v w z1 T'.heap (locs ++ L) hp ⟨by rw [e1]; exact hPw, hDw, ⟨Nat.le_trans hS.1 (by rw [e1]; exact hz), fun q h1 h2 => by rw [e1, hk q (Nat.lt_of_lt_of_le h1 hS.1) h2]; exact hS.2.1 q h1 h2, fun q hq => by
      rcases List.mem_append.mp hq with h | h
      · exact hS.2.2 q h
      · exact hL q h⟩, by rw [e1]; exact hZw.moved hal⟩ T' rfl X'
  exact ⟨t2, st t2 a1, b1⟩
theorem ht_pre {as : List Value} {A : Nat → Prop} (X : ms_X D tys s0 p s m args meth c A y0 cc n0 ret0) (I : hm_I D s0 s h z H locs) : PreS s H (va_Pc as (ht_Pre D s0 h z)) as := by
  refine ⟨fun _ _ _ _ q => ⟨q.1, q.2.1, q.2.2.1, q.2.2.2.1.moved (Vm.Alike.refl _), q.2.2.2.2⟩, fun U hU hW => ⟨rfl, by rw [hU]; exact I.1, I.2.1, by rw [hU]; exact I.2.2.2.moved hW.alike, ?_⟩⟩
  have hB := X.2.2.2.2.2.2.2.1
  refine ⟨hB.1.trans hW, by rw [hU]; exact Nat.le_trans hB.2.1 I.2.2.1.1, fun q hq => ?_⟩
  rw [hU, I.2.2.1.2.1 q (Nat.lt_of_lt_of_le hq hB.2.1) (fun h => absurd h (Nat.not_le.mpr hq))]
  exact hB.2.2 q hq
end HTW
section HTC
variable {p : Program} {l : Launch} {e : Env} {R : Room} {s s0 : State} {m : MethodId} {args : Array Value} {below : List Frame} {meth : Method} {c : Code} {H : Heap} {locs : List Loc} {cells slots : Nat} {Q : State → Prop}
variable {cc : ByteArray} {pc : Nat} {ls : Array Slot} {rest st0 : List Value} {D : va_G} {h0 : hm_T} {z0 : hz_T} {A : Nat → Prop} {mc ms : Nat} {Pre : hm_T → hz_T → Prop} {Post : hm_T → hz_T → Option Value → hm_T → hz_T → Prop} {tys : List (ClassId × FieldType)} {y0 : MethodName} {n0 : Nat} {ret0 : Option FieldType} {lv : List (Nat × Value)}
variable {y : MethodName} {b : ByteArray} {n : Nat} {ret : Option FieldType} {fr lo : Nat} {as : List Value} {idx : Nat} {h : Nat} {C : String}
theorem ht_S (X : ms_X D tys s0 p s m args meth c A y0 cc n0 ret0) (hl : lv_has ls n0 lv) (hM : ht_C l D s0 y b n ret fr lo mc ms as Pre Post) (hw : ∀ w ∈ va_wsS y0.cls idx y [.code y b n ret], w ∈ ms_tb) (hd : y.cls ≠ "java/lang/invoke/MethodHandle" ∧ y.cls ≠ "java/lang/invoke/VarHandle" ∧ (parseMethodDescriptor y.desc).map (fun d => d.parameters.length) = some as.length)
    (I : hm_I D s0 s h0 z0 H locs) (hpre : Pre h0 z0) (hrm : (fr + 1 ≤ R.frames ∧ 8 + (n + 11) + lo ≤ R.locals) ∧ cells + mc ≤ R.cells ∧ slots + ms ≤ R.slots) (hst : st0 = as.reverse ++ rest) (hrs : (rest.map fun v => v.category).sum ≤ 8) (hdg : decode cc pc = .ok (.invokestatic idx, 3))
    (kk : ∀ (v : Option Value) (h1 : hm_T) (z1 : hz_T) (H1 : Heap) (locs1 : List Loc), Post h0 z0 v h1 z1 → hm_I D s0 s h1 z1 H1 locs1 → W p l e R s m args below meth c H1 locs1 (cells + mc) (slots + ms) Q (F0 m (pc + 3) ls (v.toList ++ rest))) : W p l e R s m args below meth c H locs cells slots Q (F0 m pc ls st0) :=
  ht_go (va_runS (As := as) (rest := rest) ⟨X.1, X.2.1, X.2.2.1, X.2.2.2.1, X.2.2.2.2.2.2.1⟩ (hM h0 z0 hpre) (va_cwS as.length X.2.2.2.2.2.2.1 (ms_gs hw) rfl rfl rfl hd hrm.1) (ht_pre X I) rfl rfl hl.1 hst (lv_room hrs) hdg hrm.2) I kk
theorem ht_I (X : ms_X D tys s0 p s m args meth c A y0 cc n0 ret0) (hl : lv_has ls n0 lv) (hM : ht_C l D s0 y b n none fr lo mc ms (.ref h :: as) Pre Post) (hw : ∀ w ∈ ([.methodLink y0.cls idx y, .instanceMethod y, .initialized y.cls, .code y b n none] : List Cond), w ∈ ms_tb) (hy : y.name = "<init>") (hd : y.cls ≠ "java/lang/invoke/MethodHandle" ∧ y.cls ≠ "java/lang/invoke/VarHandle" ∧ (parseMethodDescriptor y.desc).map (fun d => d.parameters.length) = some as.length)
    (I : hm_I D s0 s h0 z0 H locs) (hpre : Pre h0 z0) (hrm : (fr + 1 ≤ R.frames ∧ 8 + (n + 11) + lo ≤ R.locals) ∧ cells + mc ≤ R.cells ∧ slots + ms ≤ R.slots) (hst : st0 = as.reverse ++ .ref h :: rest) (hrs : (rest.map fun v => v.category).sum ≤ 8) (hdg : decode cc pc = .ok (.invokespecial idx, 3))
    (kk : ∀ (v : Option Value) (h1 : hm_T) (z1 : hz_T) (H1 : Heap) (locs1 : List Loc), Post h0 z0 v h1 z1 → hm_I D s0 s h1 z1 H1 locs1 → W p l e R s m args below meth c H1 locs1 (cells + mc) (slots + ms) Q (F0 m (pc + 3) ls (v.toList ++ rest))) : W p l e R s m args below meth c H locs cells slots Q (F0 m pc ls st0) :=
  ht_go (va_runI (As := as) (rest := rest) ⟨X.1, X.2.1, X.2.2.1, X.2.2.2.1, X.2.2.2.2.2.2.1⟩ (hM h0 z0 hpre) (cwI as.length X.2.2.2.2.2.2.1 (ms_g1 (hw _ (by simp))) rfl rfl rfl (X.2.2.2.2.2.2.1 _ (hw _ (by simp))) (X.2.2.2.2.2.2.1 _ (hw _ (by simp))) (X.2.2.2.2.2.2.1 _ (hw _ (by simp))) hy hd hrm.1) (ht_pre X I) rfl rfl hl.1 hst (lv_room hrs) hdg hrm.2) I kk
theorem ht_V (X : ms_X D tys s0 p s m args meth c A y0 cc n0 ret0) (hl : lv_has ls n0 lv) (hM : ht_C l D s0 y b n ret fr lo mc ms (.ref h :: as) Pre Post) (hw : ∀ w ∈ wsV y0.cls idx C y [.code y b n ret], w ∈ ms_tb) (hd : y.cls = C ∧ y.cls ≠ "java/lang/invoke/MethodHandle" ∧ y.cls ≠ "java/lang/invoke/VarHandle" ∧ (parseMethodDescriptor y.desc).map (fun d => d.parameters.length) = some as.length) (hv : ∃ cellB : Cell, H[h]? = some cellB ∧ cellB.vm.isStatics = false ∧ s.vm.findClass C = some cellB.cls)
    (I : hm_I D s0 s h0 z0 H locs) (hpre : Pre h0 z0) (hrm : (fr + 1 ≤ R.frames ∧ 8 + (n + 11) + lo ≤ R.locals) ∧ cells + mc ≤ R.cells ∧ slots + ms ≤ R.slots) (hst : st0 = as.reverse ++ .ref h :: rest) (hrs : (rest.map fun v => v.category).sum ≤ 8) (hdg : decode cc pc = .ok (.invokevirtual idx, 3))
    (kk : ∀ (v : Option Value) (h1 : hm_T) (z1 : hz_T) (H1 : Heap) (locs1 : List Loc), Post h0 z0 v h1 z1 → hm_I D s0 s h1 z1 H1 locs1 → W p l e R s m args below meth c H1 locs1 (cells + mc) (slots + ms) Q (F0 m (pc + 3) ls (v.toList ++ rest))) : W p l e R s m args below meth c H locs cells slots Q (F0 m pc ls st0) :=
  ht_go (va_runV (As := as) (rest := rest) ⟨X.1, X.2.1, X.2.2.1, X.2.2.2.1, X.2.2.2.2.2.2.1⟩ (hM h0 z0 hpre) (cwV as.length X.2.2.2.2.2.2.1 (ms_gs hw) rfl rfl rfl hd hrm.1) ⟨(ht_pre (as := .ref h :: as) X I).1, hv, (ht_pre X I).2⟩ rfl rfl hl.1 hst (lv_room hrs) hdg hrm.2) I kk
theorem ht_U {x : MethodName} {owner : String} (X : ms_X D tys s0 p s m args meth c A y0 cc n0 ret0) (hl : lv_has ls n0 lv) (hM : ht_C l D s0 y b n ret fr lo mc ms (.ref h :: as) Pre Post) (hw : ∀ w ∈ va_wsU y0.cls idx C owner x y [.code y b n ret], w ∈ ms_tb) (hyx : y = ⟨owner, x.name, x.desc⟩) (hd : owner ≠ "java/lang/invoke/MethodHandle" ∧ owner ≠ "java/lang/invoke/VarHandle" ∧ (parseMethodDescriptor x.desc).map (fun d => d.parameters.length) = some as.length) (hv : ∃ cellB : Cell, H[h]? = some cellB ∧ cellB.vm.isStatics = false ∧ s.vm.findClass C = some cellB.cls)
    (I : hm_I D s0 s h0 z0 H locs) (hpre : Pre h0 z0) (hrm : (fr + 1 ≤ R.frames ∧ 8 + (n + 11) + lo ≤ R.locals) ∧ cells + mc ≤ R.cells ∧ slots + ms ≤ R.slots) (hst : st0 = as.reverse ++ .ref h :: rest) (hrs : (rest.map fun v => v.category).sum ≤ 8) (hdg : decode cc pc = .ok (.invokevirtual idx, 3))
    (kk : ∀ (v : Option Value) (h1 : hm_T) (z1 : hz_T) (H1 : Heap) (locs1 : List Loc), Post h0 z0 v h1 z1 → hm_I D s0 s h1 z1 H1 locs1 → W p l e R s m args below meth c H1 locs1 (cells + mc) (slots + ms) Q (F0 m (pc + 3) ls (v.toList ++ rest))) : W p l e R s m args below meth c H locs cells slots Q (F0 m pc ls st0) :=
  ht_go (va_runU (As := as) (rest := rest) ⟨X.1, X.2.1, X.2.2.1, X.2.2.2.1, X.2.2.2.2.2.2.1⟩ (hM h0 z0 hpre) (va_cwU as.length X.2.2.2.2.2.2.1 (ms_gs hw) rfl rfl rfl hyx hd hrm.1) ⟨(ht_pre (as := .ref h :: as) X I).1, hv, (ht_pre X I).2⟩ rfl rfl hl.1 hst (lv_room hrs) hdg hrm.2) I kk
theorem ht_O {x : MethodName} {owner : String} {b0 : ByteArray} {m0 : Nat} {r0 : Option FieldType} (X : ms_X D tys s0 p s m args meth c A y0 cc n0 ret0) (hl : lv_has ls n0 lv) (hM : ht_C l D s0 y b n ret fr lo mc ms (.ref h :: as) Pre Post) (hw : ∀ w ∈ va_wsO y0.cls idx C owner x y [.code y b n ret], w ∈ ms_tb) (hc0 : Cond.code ⟨owner, x.name, x.desc⟩ b0 m0 r0 ∈ ms_tb) (hd : owner ≠ "java/lang/invoke/MethodHandle" ∧ owner ≠ "java/lang/invoke/VarHandle" ∧ (parseMethodDescriptor x.desc).map (fun d => d.parameters.length) = some as.length) (hv : ∃ cellB : Cell, H[h]? = some cellB ∧ cellB.vm.isStatics = false ∧ s.vm.findClass C = some cellB.cls)
    (I : hm_I D s0 s h0 z0 H locs) (hpre : Pre h0 z0) (hrm : (fr + 1 ≤ R.frames ∧ 8 + (n + 11) + lo ≤ R.locals) ∧ cells + mc ≤ R.cells ∧ slots + ms ≤ R.slots) (hst : st0 = as.reverse ++ .ref h :: rest) (hrs : (rest.map fun v => v.category).sum ≤ 8) (hdg : decode cc pc = .ok (.invokevirtual idx, 3))
    (kk : ∀ (v : Option Value) (h1 : hm_T) (z1 : hz_T) (H1 : Heap) (locs1 : List Loc), Post h0 z0 v h1 z1 → hm_I D s0 s h1 z1 H1 locs1 → W p l e R s m args below meth c H1 locs1 (cells + mc) (slots + ms) Q (F0 m (pc + 3) ls (v.toList ++ rest))) : W p l e R s m args below meth c H locs cells slots Q (F0 m pc ls st0) :=
  ht_go (va_runU (As := as) (rest := rest) ⟨X.1, X.2.1, X.2.2.1, X.2.2.2.1, X.2.2.2.2.2.2.1⟩ (hM h0 z0 hpre) (va_cwO as.length X.2.2.2.2.2.2.1 (ms_gs hw) rfl rfl rfl hc0 hd hrm.1) ⟨(ht_pre (as := .ref h :: as) X I).1, hv, (ht_pre X I).2⟩ rfl rfl hl.1 hst (lv_room hrs) hdg hrm.2) I kk
theorem ht_SU {cC : ClassId} (hat : ClassAt s C cC) (X : ms_X D tys s0 p s m args meth c A y0 cc n0 ret0) (hl : lv_has ls n0 lv) (hM : ht_C l D s0 y b n ret fr lo mc ms (.ref h :: as) Pre Post) (hw : ∀ w ∈ va_wsSU y0.cls idx y [.code y b n ret], w ∈ ms_tb) (hd : y.name ≠ "<init>" ∧ (parseMethodDescriptor y.desc).map (fun d => d.parameters.length) = some as.length) (hv : ∃ cellB : Cell, H[h]? = some cellB ∧ cellB.vm.isStatics = false ∧ s.vm.findClass C = some cellB.cls)
    (I : hm_I D s0 s h0 z0 H locs) (hpre : Pre h0 z0) (hrm : (fr + 1 ≤ R.frames ∧ 8 + (n + 11) + lo ≤ R.locals) ∧ cells + mc ≤ R.cells ∧ slots + ms ≤ R.slots) (hst : st0 = as.reverse ++ .ref h :: rest) (hrs : (rest.map fun v => v.category).sum ≤ 8) (hdg : decode cc pc = .ok (.invokespecial idx, 3))
    (kk : ∀ (v : Option Value) (h1 : hm_T) (z1 : hz_T) (H1 : Heap) (locs1 : List Loc), Post h0 z0 v h1 z1 → hm_I D s0 s h1 z1 H1 locs1 → W p l e R s m args below meth c H1 locs1 (cells + mc) (slots + ms) Q (F0 m (pc + 3) ls (v.toList ++ rest))) : W p l e R s m args below meth c H locs cells slots Q (F0 m pc ls st0) :=
  ht_go (va_runSU (As := as) (rest := rest) hat ⟨X.1, X.2.1, X.2.2.1, X.2.2.2.1, X.2.2.2.2.2.2.1⟩ (hM h0 z0 hpre) (va_cwSU as.length X.2.2.2.2.2.2.1 (ms_gs hw) rfl rfl rfl hd hrm.1) ⟨(ht_pre (as := .ref h :: as) X I).1, hv, (ht_pre X I).2⟩ rfl rfl hl.1 hst (lv_room hrs) hdg hrm.2) I kk
end HTC
/-- what the start gives, beside the words: the classes, two statics -/
def ms_EV (D : va_G) (dA : Nat → ClassId) (s0 : State) : Prop := ms_E D (ms_tys dA) s0 ∧ va_AO "MarkupStore$Node" s0 ∧ (∀ B : Nat → Prop, (∀ q, B q → s0.heap.size ≤ q) → va_Z "java/lang/String" "COMPACT_STRINGS" "Z" (.int 1) B s0 s0.heap) ∧ (∃ t : Nat, ∀ B : Nat → Prop, (∀ q, B q → s0.heap.size ≤ q) → va_Z "java/util/ArrayList" "DEFAULTCAPACITY_EMPTY_ELEMENTDATA" "[Ljava/lang/Object;" (.ref t) B s0 s0.heap) ∧ va_AO "java/lang/Object" s0 ∧ ((∀ B : Nat → Prop, (∀ q, B q → s0.heap.size ≤ q) → va_Z "jdk/internal/util/Preconditions" "SIOOBE_FORMATTER" "Ljava/util/function/BiFunction;" .null B s0 s0.heap) ∨ ∃ t : Nat, ∀ B : Nat → Prop, (∀ q, B q → s0.heap.size ≤ q) → va_Z "jdk/internal/util/Preconditions" "SIOOBE_FORMATTER" "Ljava/util/function/BiFunction;" (.ref t) B s0 s0.heap) ∧ (∃ a0 : Array Value, ∀ w ∈ lw_tbl, w.before a0 s0 = true) ∧ ∀ (k : Nat) (q : String × Nat × String × List Nat), ms_lit[k]? = some q → ∃ a u : Nat, vk_R q.1 q.2.1 q.2.2.1 a s0 ∧ st_at s0 s0.heap a u q.2.2.2
theorem ms_ao {D : va_G} {tys : List (ClassId × FieldType)} {s0 s : State} {p : Program} {m : MethodId} {args : Array Value} {meth : Method} {c : Code} {A : Nat → Prop} {y : MethodName} {b : ByteArray} {n : Nat} {ret : Option FieldType} {C : String} (h : va_AO C s0) (X : ms_X D tys s0 p s m args meth c A y b n ret) : va_AO C s := va_AO.moved X.2.2.2.2.2.2.2.1.1.alike h
theorem ms_cast {D : va_G} {dA : Nat → ClassId} {tys : List (ClassId × FieldType)} {s0 s : State} {p : Program} {m : MethodId} {args : Array Value} {meth : Method} {c : Code} {A : Nat → Prop} {y : MethodName} {b : ByteArray} {n : Nat} {ret : Option FieldType} {C T : String} (hE : ms_EV D dA s0) (X : ms_X D tys s0 p s m args meth c A y b n ret) (hw : Cond.castable C T ∈ lw_tbl) : va_Nw (.castable C T) s := by
  obtain ⟨a0, h0⟩ := hE.2.2.2.2.2.2.1
  exact va_Nw.warmC X.2.2.2.2.2.2.2.1.1 (va_Nw.of rfl (h0 _ hw))
theorem ms_nest {D : va_G} {dA : Nat → ClassId} {tys : List (ClassId × FieldType)} {s0 s : State} {p : Program} {m : MethodId} {args : Array Value} {meth : Method} {c : Code} {A : Nat → Prop} {y y2 : MethodName} {b : ByteArray} {n : Nat} {ret : Option FieldType} {C host : String} {i : Nat} (hE : ms_EV D dA s0) (X : ms_X D tys s0 p s m args meth c A y b n ret) (hw : Cond.methodLinkNest C i y2 host ∈ lw_tbl) : va_Nw (.methodLinkNest C i y2 host) s := by
  obtain ⟨a0, h0⟩ := hE.2.2.2.2.2.2.1
  exact va_Nw.warmM X.2.2.2.2.2.2.2.1.1 (va_Nw.of rfl (h0 _ hw))
theorem ms_l {w : Cond} (h : w ∈ tables_1) : w ∈ lw_tbl := List.mem_append_right _ h
def ms_ty (z : Int32) : Int32 := if z < 32 then 0 else if 126 < z then 0 else 1
theorem hz_ldc {p : Program} {l : Launch} {e : Env} {R : Room} {s s0 : State} {m : MethodId} {args : Array Value} {below : List Frame} {meth : Method} {c : Code} {H : Heap} {locs : List Loc} {cells slots : Nat} {Q : State → Prop} {cc : ByteArray} {pc : Nat} {ls : Array Slot} {rest : List Value} {D : va_G} {dA : Nat → ClassId} {h : hm_T} {z : hz_T} {tys : List (ClassId × FieldType)} {y0 : MethodName} {n0 : Nat} {ret0 : Option FieldType} {A : Nat → Prop} {own tx : String} {idx : Nat} {xs : List Nat} (hE : ms_EV D dA s0) (X : ms_X D tys s0 p s m args meth c A y0 cc n0 ret0) (I : hm_I D s0 s h z H locs) (k : Nat) (hq : ms_lit[k]? = some (own, idx, tx, xs)) (hown : s.vm.findClass own = some m.cls) (hdg : decode cc pc = .ok (.ldc idx, 2)) (kk : ∀ a u : Nat, z a = some (u, xs) → W p l e R s m args below meth c H locs cells slots Q (F0 m (pc + 2) ls (.ref a :: rest))) : W p l e R s m args below meth c H locs cells slots Q (F0 m pc ls rest) := by
  obtain ⟨a, u, h1, h2⟩ := hE.2.2.2.2.2.2.2 k _ hq
  exact va_ldcS X.1 X.2.1 hown (vk_R.warm X.2.2.2.2.2.2.2.1.1 h1) hdg (kk a u (I.2.2.2.2 k _ a u hq h1 h2))
