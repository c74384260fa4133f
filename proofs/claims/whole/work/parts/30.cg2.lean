
-- making objects: what is left of the room
theorem rm_u {a b k n r : Nat} (h : a + b ≤ r) (e : b = k + n) : a + n ≤ r ∧ a + n + k ≤ r := by omega
theorem rm_0 {a b r : Nat} (h : a + b ≤ r) : a + 0 ≤ r := by omega
theorem rm_r {a b r : Nat} (h : a + b ≤ r) : a ≤ r := by omega
/-- the start's empty array of a list (dA 99), the class object of Object[] (dA 98) -/
def ms_EW (D : va_G) (dA : Nat → ClassId) (s0 : State) : Prop := ms_EV D dA s0 ∧ (∀ B : Nat → Prop, (∀ q, B q → s0.heap.size ≤ q) → va_Z "java/util/ArrayList" "DEFAULTCAPACITY_EMPTY_ELEMENTDATA" "[Ljava/lang/Object;" (.ref (dA 99)) B s0 s0.heap) ∧ va_T (.object "java/lang/Object") (dA 99) 0 (fun _ => .null) (fun _ => False) s0 s0.heap ∧ va_Mi "[Ljava/lang/Object;" (dA 98) s0
/-- an object that may lie in a list -/
def jo (h : hm_T) (v : Nat) : Prop := ∃ (ci : Nat) (fs : List Value), h v = some (.inr (ci, fs)) ∧ (ci = 8 ∨ ci = 9 ∨ ci = 12 ∨ ci = 13)
def cg_new (h : hm_T) (c s ci N : Nat) (fs : List Value) (K : Nat → Nat → Nat → hm_T → Prop) : Prop := ∃ c2 s2 : Nat, c = c2 + 1 ∧ s = s2 + N ∧ ∀ q : Nat, h q = none → K q c2 s2 (hm_u h q (.inr (ci, fs)))
def cg_na (dA : Nat → ClassId) (h : hm_T) (c s t : Nat) (n : Int32) (K : Nat → Nat → Nat → hm_T → Prop) : Prop := ∃ N c2 s2 : Nat, n = nI N ∧ N ≤ 1000000 ∧ c = c2 + 1 ∧ s = s2 + N ∧ ∀ q : Nat, h q = none → K q c2 s2 (hm_u h q (.inl (dA t, N, .inl (fun _ => 0))))
def cg_nq (dA : Nat → ClassId) (h : hm_T) (c s t : Nat) (n : Int32) (K : Nat → Nat → Nat → hm_T → Prop) : Prop := ∃ N c2 s2 : Nat, n = nI N ∧ N ≤ 1000000 ∧ c = c2 + 1 ∧ s = s2 + N ∧ ∀ q : Nat, h q = none → K q c2 s2 (hm_u h q (.inl (dA t, N, .inr (.inr (.inr (.inr (fun _ => none)))))))
/-- a call: what it may take, what is left -/
def cg_rm (c s : Nat) (K : Nat → Nat → Nat → Nat → Prop) : Prop := ∃ c1 s1 c2 s2 : Nat, c = c2 + c1 ∧ s = s2 + s1 ∧ K c1 s1 c2 s2
def cg_k (c s mc ms : Nat) (K : Nat → Nat → Prop) : Prop := ∃ c2 s2 : Nat, c = c2 + mc ∧ s = s2 + ms ∧ K c2 s2
def cg_alo (dA : Nat → ClassId) (h : hm_T) (a : Nat) (K : Int32 → Prop) : Prop := ∃ v : Int32, ((∃ (n : Nat) (f : Nat → Option Nat), h a = some (.inl (dA 6, n, .inr (.inr (.inr (.inr f))))) ∧ v = nI n) ∨ (a = dA 99 ∧ v = 0)) ∧ K v
def cg_sro (dA : Nat → ClassId) (h : hm_T) (a : Nat) (i : Int32) (v : Nat) (K : hm_T → Prop) : Prop := jo h v ∧ ∃ (n : Nat) (f : Nat → Option Nat), h a = some (.inl (dA 6, n, .inr (.inr (.inr (.inr f))))) ∧ vp_in i n ∧ K (hm_u h a (.inl (dA 6, n, .inr (.inr (.inr (.inr (va_up f i.toNatClampNeg (some v))))))))
def cg_cpi (dA : Nat → ClassId) (h : hm_T) (a d : Nat) (n : Int32) (K : hm_T → Prop) : Prop := ∃ (N m1 m2 : Nat) (f g : Nat → Int32), n = nI N ∧ h a = some (.inl (dA 0, m1, .inl f)) ∧ h d = some (.inl (dA 0, m2, .inl g)) ∧ N ≤ m1 ∧ N ≤ m2 ∧ m1 < 2 ^ 31 ∧ m2 < 2 ^ 31 ∧ K (hm_u h d (.inl (dA 0, m2, .inl (va_cpy f g 0 0 N))))
def cg_cpq (dA : Nat → ClassId) (h : hm_T) (a d : Nat) (n : Int32) (K : hm_T → Prop) : Prop := ∃ (N m1 m2 : Nat) (f g : Nat → Option Nat), n = nI N ∧ h a = some (.inl (dA 6, m1, .inr (.inr (.inr (.inr f))))) ∧ h d = some (.inl (dA 6, m2, .inr (.inr (.inr (.inr g))))) ∧ N ≤ m1 ∧ N ≤ m2 ∧ m1 < 2 ^ 31 ∧ m2 < 2 ^ 31 ∧ (∀ i, i < N → ∀ y, f i = some y → jo h y) ∧ K (hm_u h d (.inl (dA 6, m2, .inr (.inr (.inr (.inr (va_cpy f g 0 0 N)))))))
def cg_oa (dA : Nat → ClassId) (h : hm_T) (a : Nat) (K : Prop) : Prop := ∃ (n : Nat) (f : Nat → Option Nat), h a = some (.inl (dA 6, n, .inr (.inr (.inr (.inr f))))) ∧ K
/-- a StringBuilder at a, its bytes at v, with this text -/
def jb (dA : Nat → ClassId) (h : hm_T) (a v : Nat) (xs : List Nat) : Prop := ∃ (mb : Int32) (n : Nat) (f : Nat → Int32), h a = some (.inr (3, [.ref v, .int 0, .int mb, .int (nI xs.length)])) ∧ h v = some (.inl (dA 2, n, .inl f)) ∧ tx_n n ∧ xs.length ≤ n ∧ sb_Fit f ∧ tx_b xs f ∧ ∀ c ∈ xs, c < 128
theorem hm_aft2 {h h1 : hm_T} {a v u : Nat} {e0 e1 e2 e3 : va_E} (q : hm_aft h [(a, e0), (v, e1)] [(a, e2), (u, e3)] h1) : h1 a = some e2 ∧ h1 u = some e3 ∧ (u = v ∨ h u = none) ∧ ∀ (b : Nat) (e : va_E), h b = some e → b ≠ a → b ≠ v → h1 b = some e := by
  obtain ⟨q1, q2, q3⟩ := q
  have k0 := q1 0 _ rfl
  have k1 := q1 1 _ rfl
  refine ⟨k0.1, k1.1, ?_, fun b e hb n1 n2 => q3 b e hb (hm_off2 (Ne.symm n1) (Ne.symm n2))⟩
  rcases k1.2 with ⟨j, e, hj⟩ | k
  · match j, hj with
    | 0, hj =>
      have hu : a = u := by simpa using (congrArg Prod.fst (Option.some.inj hj))
      have := q2 0 1 _ _ rfl rfl hu
      cases this
    | 1, hj =>
      have hu : v = u := by simpa using (congrArg Prod.fst (Option.some.inj hj))
      exact Or.inl hu.symm
    | k + 2, hj => simp at hj
  · exact Or.inr k
theorem tx_n142 {n : Nat} (h : tx_n n) : n ≤ 142 := by unfold tx_n at h; omega
theorem tx_b_app {xs ys : List Nat} {f g : Nat → Int32} (hb : tx_b xs f) (h1 : ∀ i, i < xs.length → g i = f i) (h2 : ∀ i, i < ys.length → g (xs.length + i) = nI (ys.getD i 0)) : tx_b (xs ++ ys) g := by
  intro i hi
  rw [List.length_append] at hi
  by_cases q : i < xs.length
  · rw [h1 i q, hb i q, List.getD_eq_getElem?_getD, List.getD_eq_getElem?_getD, List.getElem?_append_left q]
  · have e : i = xs.length + (i - xs.length) := by omega
    rw [e, h2 _ (by omega), List.getD_eq_getElem?_getD, List.getD_eq_getElem?_getD, List.getElem?_append_right (by omega), Nat.add_sub_cancel_left]
section CG2
variable {p : Program} {l : Launch} {e : Env} {R : Room} {s s0 : State} {m : MethodId} {args : Array Value} {below : List Frame} {meth : Method} {c : Code} {H : Heap} {locs : List Loc} {cells slots : Nat} {Q : State → Prop}
variable {cc : ByteArray} {pc : Nat} {ls : Array Slot} {rest : List Value} {D : va_G} {h : hm_T} {z : hz_T} {tys : List (ClassId × FieldType)} {y0 : MethodName} {n0 : Nat} {ret0 : Option FieldType} {A : Nat → Prop} {a : Nat}

theorem hm_emp {dA : Nat → ClassId} (hW : ms_EW D dA s0) (X : ms_X D tys s0 p s m args meth c A y0 cc n0 ret0) : va_T (.object "java/lang/Object") (dA 99) 0 (fun _ => .null) (fun q => s0.heap.size ≤ q) s s.heap := by
  obtain ⟨cell, h1, h2, h3, h4, h5, h6, -⟩ := hW.2.2.1
  have hl : dA 99 < s0.heap.size := (Array.getElem?_eq_some_iff.mp h1).1
  have hB := X.2.2.2.2.2.2.2.1
  exact ⟨cell, by rw [hB.2.2 _ hl]; exact h1, State.isArrayOf_alike hB.1.alike h2, h3, h4, h5, h6, Nat.not_le.mpr hl⟩
theorem hm_aleno {dA : Nat → ClassId} (hW : ms_EW D dA s0) (X : ms_X D (ms_tys dA) s0 p s m args meth c A y0 cc n0 ret0) (I : hm_I D s0 s h z H locs) {v : Int32} (hv : (∃ (n : Nat) (f : Nat → Option Nat), h a = some (.inl (dA 6, n, .inr (.inr (.inr (.inr f))))) ∧ v = nI n) ∨ (a = dA 99 ∧ v = 0)) (hdg : decode cc pc = .ok (.arraylength, 1)) (kk : W p l e R s m args below meth c H locs cells slots Q (F0 m (pc + 1) ls (.int v :: rest))) : W p l e R s m args below meth c H locs cells slots Q (F0 m pc ls (.ref a :: rest)) := by
  have hK := X.2.2.2.2.2.2.2.2.1
  rcases hv with ⟨n, f, c9, rfl⟩ | ⟨rfl, rfl⟩
  · exact va_alen (v := nI n) X.1 X.2.1 hK (hm_one I.1 c9) 0 6 rfl rfl rfl hdg kk
  · exact va_tlen X.1 X.2.1 (hm_emp hW X) I.2.2.1 (by decide) hdg kk
theorem hm_fO {dA : Nat → ClassId} (hK : va_K D vwCl (ms_tys dA) s) : s.vm.findClass "[Ljava/lang/Object;" = some (dA 6) := va_nmO (hK.2 6 _ rfl).2 (by decide)
theorem hm_recvO {dA : Nat → ClassId} (hK : va_K D vwCl (ms_tys dA) s) (I : hm_I D s0 s h z H locs) {n : Nat} {f : Nat → Option Nat} (c9 : h a = some (.inl (dA 6, n, .inr (.inr (.inr (.inr f)))))) : ∃ cell : Cell, H[a]? = some cell ∧ cell.vm.isStatics = false ∧ s.vm.findClass "[Ljava/lang/Object;" = some cell.cls :=
  ⟨vp_cell (dA 6) (n, .inr (.inr (.inr (.inr f)))), I.1 a _ c9, rfl, hm_fO hK⟩
theorem hm_dc {dA : Nat → ClassId} (hE : ms_EV D dA s0) (X : ms_X D tys s0 p s m args meth c A y0 cc n0 ret0) (hw : Cond.declares ⟨"java/lang/Object", "getClass", "()Ljava/lang/Class;"⟩ ∈ lw_tbl) : (Cond.declares ⟨"java/lang/Object", "getClass", "()Ljava/lang/Class;"⟩).before args s = true := by
  obtain ⟨a0, h0⟩ := hE.2.2.2.2.2.2.1
  exact va_Dc.use (va_Dc.moved X.2.2.2.2.2.2.2.1.1.alike (va_Dc.of (h0 _ hw)))
theorem hm_mi {dA : Nat → ClassId} (hW : ms_EW D dA s0) (X : ms_X D tys s0 p s m args meth c A y0 cc n0 ret0) : va_Mi "[Ljava/lang/Object;" (dA 98) s := va_Mi.moved X.2.2.2.2.2.2.2.1.1.alike hW.2.2.2
theorem hm_jo {dA : Nat → ClassId} (hE : ms_EV D dA s0) (X : ms_X D tys s0 p s m args meth c A y0 cc n0 ret0) (I : hm_I D s0 s h z H locs) (j : jo h a) : va_Any "java/lang/Object" s H a := by
  have hK := X.2.2.2.2.2.2.2.2.1
  obtain ⟨ci, fs, c9, q⟩ := j
  rcases q with rfl | rfl | rfl | rfl
  · exact va_rAny (q0 := 0) hK (hm_one I.1 c9) rfl rfl (fun comp c0 h1 h2 => vb_asgC (ms_cast hE X (ms_l (ms_t8 (List.mem_of_getElem? (i := 181) (by decide +kernel))))) comp c0 h1 h2)
  · exact va_rAny (q0 := 0) hK (hm_one I.1 c9) rfl rfl (fun comp c0 h1 h2 => vb_asgC (ms_cast hE X (ms_l (ms_t8 (List.mem_of_getElem? (i := 182) (by decide +kernel))))) comp c0 h1 h2)
  · exact va_rAny (q0 := 0) hK (hm_one I.1 c9) rfl rfl (fun comp c0 h1 h2 => vb_asgC (ms_cast hE X (ms_l (ms_t8 (List.mem_of_getElem? (i := 185) (by decide +kernel))))) comp c0 h1 h2)
  · exact va_rAny (q0 := 0) hK (hm_one I.1 c9) rfl rfl (fun comp c0 h1 h2 => vb_asgC (ms_cast hE X (ms_l (ms_t8 (List.mem_of_getElem? (i := 186) (by decide +kernel))))) comp c0 h1 h2)
theorem hm_mkq {C nm : String} {cA : ClassId} {idx : Nat} (X : ms_X D tys s0 p s m args meth c A y0 cc n0 ret0) (I : hm_I D s0 s h z H locs) (hk : Cond.classLink y0.cls idx C ∈ ms_tb) (hover : va_AO C s) (t0 : Nat) (ht : tys[t0]? = some (cA, .object C)) (hnm : "[" ++ (FieldType.object C).toString = nm)
    {n : Int32} {N' : Nat} (hn : ¬ n < 0) (hN : n.toNatClampNeg = N') (hbytes : N' * 4 ≤ 536870912) (hcells : cells + 1 ≤ R.cells) (hslots : slots + N' ≤ R.slots) (hdg : decode cc pc = .ok (.anewarray idx, 3))
    (kk : ∀ (q : Nat) (h1 : hm_T) (H1 : Heap), h q = none → h1 q = some (.inl (cA, N', .inr (.inr (.inr (.inr (fun _ => none)))))) → (∀ b, b ≠ q → h1 b = h b) → hm_I D s0 s h1 z H1 locs → W p l e R s m args below meth c H1 locs (cells + 1) (slots + N') Q (F0 m (pc + 3) ls (.ref q :: rest))) : W p l e R s m args below meth c H locs cells slots Q (F0 m pc ls (.int n :: rest)) := by
  have hK := X.2.2.2.2.2.2.2.2.1
  have hf := va_nmO (hK.2 t0 _ ht).2 hnm
  subst hN
  refine W.anew X.1 X.2.1 X.2.2.2.1 (X.2.2.2.2.2.2.1 _ hk) (va_AO.use hover) rfl hdg rfl hn hbytes hcells hslots fun cA' kA comp f1 f2 f3 f4 => ?_
  have ec : cA' = cA := by
    have f1' := f1
    rw [hnm, hf] at f1'
    exact (Option.some.inj f1').symm
  subst ec
  generalize hH1 : H.push ({ cls := cA', slots := Array.replicate n.toNatClampNeg .null, vm := .none } : Cell) = H1
  have z1 : H1.size = H.size + 1 := by rw [← hH1, Array.size_push]
  have e1 : H1[H.size]? = some (arrV cA' n.toNatClampNeg (fun _ => .null)) := by rw [← hH1, Array.getElem?_push_size, ← arrV_new]
  have o1 : ∀ q : Nat, q < H.size → H1[q]? = H[q]? := fun q hq => by rw [← hH1, Array.getElem?_push, if_neg (Nat.ne_of_lt hq)]
  refine kk H.size _ H1 (hm_none I.1 (Nat.le_refl _)) hm_s (fun b hb => hm_n hb) (hm_new X.2.2.2.2.2.2.2.1.2.1 I ?_ z1 o1)
  show H1[H.size]? = some (vp_cell _ _)
  rw [vp_cell_q]
  exact e1
theorem hm_cpyi {d : Nat} {cB : ClassId} {m1 n1 N : Nat} {f g : Nat → Int32} {idx : Nat} (X : ms_X D tys s0 p s m args meth c A y0 cc n0 ret0) (hlz : ls.size = n0) (I : hm_I D s0 s h z H locs) (hw : ∀ w ∈ ([.methodLink y0.cls idx arraycopyName, .native arraycopyName, .static arraycopyName, .initialized "java/lang/System"] : List Cond), w ∈ ms_tb) (ha : h a = some (.inl (cB, m1, .inl f))) (hd : h d = some (.inl (cB, n1, .inl g))) (t1 : Nat) (ht1 : tys[t1]? = some (cB, .int)) (h4 : N ≤ m1) (h5 : N ≤ n1) (hs : m1 < 2 ^ 31) (hs1 : n1 < 2 ^ 31)
    (hframes : 1 ≤ R.frames) (hlocals : (rest.map fun v => v.category).sum + (nativeFrameWords "java/lang/System" "arraycopy" 5 + 11) ≤ R.locals) (hdg : decode cc pc = .ok (.invokestatic idx, 3))
    (kk : ∀ (h1 : hm_T) (H1 : Heap) (locs1 : List Loc), h1 d = some (.inl (cB, n1, .inl (va_cpy f g 0 0 N))) → (∀ b, b ≠ d → h1 b = h b) → hm_I D s0 s h1 z H1 locs1 → W p l e R s m args below meth c H1 locs1 cells slots Q (F0 m (pc + 3) ls rest)) : W p l e R s m args below meth c H locs cells slots Q (F0 m pc ls (.int (nI N) :: .int 0 :: .ref d :: .int 0 :: .ref a :: rest)) := by
  have hts := X.2.2.2.2.2.2.1
  have hK := X.2.2.2.2.2.2.2.2.1
  have k0 : (0 : Int32).toNatClampNeg = 0 := by decide
  have k3 := nI_clamp (n := N) (by omega)
  intro T hT Y
  have hc0 : H[a]? = some (vp_cell cB (m1, .inl f)) := I.1 a _ ha
  have hc1 : H[d]? = some (vp_cell cB (n1, .inl g)) := I.1 d _ hd
  obtain ⟨-, kk0, hk0, cm0, hkk0⟩ := (hK.2 t1 _ ht1).1 m1 (fun j => .int (f j))
  obtain ⟨-, kk1, hk1, cm1, hkk1⟩ := (hK.2 t1 _ ht1).1 n1 (fun j => .int (g j))
  have e0 : ∀ i, i < N → (vp_cell cB (m1, .inl f)).slots.getD i .null = .int (f i) := fun i hi => by
    show (arrV cB m1 (fun j => .int (f j))).slots.getD _ _ = _
    rw [Array.getD_eq_getD_getElem?, arrV_read _ _ (by omega)]
    rfl
  obtain ⟨vm', Y', step⟩ := Y.arraycopy X.1 X.2.2.2.1 (hts (.methodLink y0.cls idx arraycopyName) (hw _ (by simp))) (hts _ (hw _ (by simp))) (hts _ (hw _ (by simp))) (hts _ (hw _ (by simp))) (src := a) (dst := d) (cs := vp_cell cB (m1, .inl f)) (cd := vp_cell cB (n1, .inl g)) (srcPos := 0) (destPos := 0) (n := nI N) (by rw [hT]; exact hc0) (by rw [hT]; exact hc1)
    (fun _ h => by cases h) (fun _ h => by cases h) (fun h => by cases h) (fun h => by cases h) hk0 hk1 hkk0 hkk1 (by simp [refKind]) (by decide) (by decide) (nI_pos (by omega))
    (by rw [nI_toInt (by omega)]; show ¬ (0 : Int) + _ > ((arrV cB m1 (fun j => .int (f j))).slots.size : Int); rw [arrV_size]; omega)
    (by rw [nI_toInt (by omega)]; show ¬ (0 : Int) + _ > ((arrV cB n1 (fun j => .int (g j))).slots.size : Int); rw [arrV_size]; omega)
    (fun vm₁ _ i hi => by
      rw [k3] at hi
      rw [k0, Nat.zero_add, e0 i hi]
      exact ⟨rfl, trivial⟩)
    (g := F0 m pc ls (.int (nI N) :: .int 0 :: .ref d :: .int 0 :: .ref a :: rest)) rfl (by rw [X.2.2.1]; exact hlz) (rest := rest) rfl (by rw [X.2.1]; exact hdg) hframes (by show 2 * 0 + _ + _ ≤ _; omega)
  have e1 : copied (vp_cell cB (m1, .inl f)) (vp_cell cB (n1, .inl g)) 0 0 (nI N) = vp_cell cB (n1, .inl (va_cpy f g (0 : Int32).toNatClampNeg (0 : Int32).toNatClampNeg (nI N).toNatClampNeg)) := by
    rw [vp_cell_i, vp_cell_i, vp_cell_i]
    exact va_copied (fun z => .int z) cB cB f g (by rw [k0, k3]; omega)
  rw [e1, k0, k3] at Y' step
  have hl : d < H.size := (Array.getElem?_eq_some_iff.mp hc1).1
  have hheap : ((T.setVm vm').setCell d (vp_cell cB (n1, .inl (va_cpy f g 0 0 N)))).heap = H.setIfInBounds d (vp_cell cB (n1, .inl (va_cpy f g 0 0 N))) := by rw [← hT]; rfl
  have oq : ∀ q : Nat, q ≠ d → (H.setIfInBounds d (vp_cell cB (n1, .inl (va_cpy f g 0 0 N))))[q]? = H[q]? := fun q hq => by simp [Array.getElem?_setIfInBounds, Ne.symm hq]
  have I1 := hm_set (k := 0) I hd (show va_at D vwCl (d, .inl (cB, n1, .inl (va_cpy f g 0 0 N))) (H.setIfInBounds d _) from (show (H.setIfInBounds d _)[d]? = some _ by simp [Array.getElem?_setIfInBounds, hl])) (by simp) oq
  obtain ⟨t, g1, g2⟩ := kk _ _ _ hm_s (fun b hb => hm_n hb) ⟨I1.1, I1.2.1, ⟨I1.2.2.1.1, I1.2.2.1.2.1, fun q hq => by
      rcases List.mem_append.mp hq with h | h
      · exact I.2.2.1.2.2 q h
      · obtain ⟨w, -, hw⟩ := List.mem_map.mp h
        rw [← hw]
        exact I.2.1 d _ hd⟩, I1.2.2.2⟩ _ hheap Y'
  exact ⟨t, step t g1, g2⟩
theorem hm_cpyq {d : Nat} {cB : ClassId} {m1 n1 N : Nat} {f g : Nat → Option Nat} {E : String} {idx : Nat} (X : ms_X D tys s0 p s m args meth c A y0 cc n0 ret0) (hlz : ls.size = n0) (I : hm_I D s0 s h z H locs) (hw : ∀ w ∈ ([.methodLink y0.cls idx arraycopyName, .native arraycopyName, .static arraycopyName, .initialized "java/lang/System"] : List Cond), w ∈ ms_tb) (ha : h a = some (.inl (cB, m1, .inr (.inr (.inr (.inr f)))))) (hd : h d = some (.inl (cB, n1, .inr (.inr (.inr (.inr g)))))) (t1 : Nat) (ht1 : tys[t1]? = some (cB, .object E)) (h4 : N ≤ m1) (h5 : N ≤ n1) (hs : m1 < 2 ^ 31) (hs1 : n1 < 2 ^ 31) (hel : ∀ i : Nat, i < N → ∀ y : Nat, f i = some y → va_Any E s H y)
    (hframes : 1 ≤ R.frames) (hlocals : (rest.map fun v => v.category).sum + (nativeFrameWords "java/lang/System" "arraycopy" 5 + 11) ≤ R.locals) (hdg : decode cc pc = .ok (.invokestatic idx, 3))
    (kk : ∀ (h1 : hm_T) (H1 : Heap) (locs1 : List Loc), h1 d = some (.inl (cB, n1, .inr (.inr (.inr (.inr (va_cpy f g 0 0 N)))))) → (∀ b, b ≠ d → h1 b = h b) → hm_I D s0 s h1 z H1 locs1 → W p l e R s m args below meth c H1 locs1 cells slots Q (F0 m (pc + 3) ls rest)) : W p l e R s m args below meth c H locs cells slots Q (F0 m pc ls (.int (nI N) :: .int 0 :: .ref d :: .int 0 :: .ref a :: rest)) := by
  have hts := X.2.2.2.2.2.2.1
  have hK := X.2.2.2.2.2.2.2.2.1
  have z0 : (0 : Int32).toNatClampNeg = 0 := by decide
  have k3 := nI_clamp (n := N) (by omega)
  intro T hT Y
  have hc0 : H[a]? = some (vp_cell cB (m1, .inr (.inr (.inr (.inr f))))) := I.1 a _ ha
  have hc1 : H[d]? = some (vp_cell cB (n1, .inr (.inr (.inr (.inr g))))) := I.1 d _ hd
  obtain ⟨-, k0, hk0, cm0, hkk0⟩ := (hK.2 t1 _ ht1).1 m1 (fun j => va_rf (f j))
  obtain ⟨-, k1, hk1, cm1, hkk1⟩ := (hK.2 t1 _ ht1).1 n1 (fun j => va_rf (g j))
  obtain ⟨vm', Y', step⟩ := Y.arraycopy X.1 X.2.2.2.1 (hts (.methodLink y0.cls idx arraycopyName) (hw _ (by simp))) (hts _ (hw _ (by simp))) (hts _ (hw _ (by simp))) (hts _ (hw _ (by simp))) (src := a) (dst := d) (cs := vp_cell cB (m1, .inr (.inr (.inr (.inr f))))) (cd := vp_cell cB (n1, .inr (.inr (.inr (.inr g))))) (srcPos := 0) (destPos := 0) (n := nI N) (by rw [hT]; exact hc0) (by rw [hT]; exact hc1)
    (fun _ h => by cases h) (fun _ h => by cases h) (fun h => by cases h) (fun h => by cases h) hk0 hk1 hkk0 hkk1 rfl (by decide) (by decide) (nI_pos (by omega))
    (by rw [nI_toInt (by omega)]; show ¬ (0 : Int) + _ > ((arrV cB m1 (fun j => va_rf (f j))).slots.size : Int); rw [arrV_size]; omega)
    (by rw [nI_toInt (by omega)]; show ¬ (0 : Int) + _ > ((arrV cB n1 (fun j => va_rf (g j))).slots.size : Int); rw [arrV_size]; omega)
    (fun vm₁ hal i hi => by
      rw [k3] at hi
      have e : (vp_cell cB (m1, .inr (.inr (.inr (.inr f))))).slots.getD ((0 : Int32).toNatClampNeg + i) .null = va_rf (f i) := by
        rw [z0, Nat.zero_add]
        show (arrV cB m1 (fun j => va_rf (f j))).slots.getD _ _ = _
        rw [Array.getD_eq_getD_getElem?, arrV_read _ _ (by omega)]
        rfl
      rw [e]
      cases hy : f i with
      | none => exact ⟨rfl, trivial⟩
      | some y =>
        obtain ⟨cellV, g1, g2, ⟨kC, hkC⟩, hasg⟩ := hel i hi y hy
        obtain ⟨kA, comp, r1, r2, r3, -⟩ := (hK.2 t1 _ ht1).2
        cases hk1.symm.trans r1
        cases hkk1.symm.trans r2
        obtain ⟨kE, hkE, -⟩ := Vm.findClass_spec r3
        obtain ⟨kC', hkC', -⟩ := hal.2.2 _ _ hkC
        obtain ⟨kE', hkE', -⟩ := hal.2.2 _ _ hkE
        refine ⟨rfl, cellV, (show T.heap[y]? = some cellV by rw [hT]; exact g1), (fun q h => by rw [h] at g2; cases g2), ⟨kC', hkC'⟩, ?_, ?_⟩
        · exact ⟨kE', hkE'⟩
        · show vm₁.assignable _ _ = true
          rw [hal.assignable]
          exact hasg _ r3)
    (g := F0 m pc ls (.int (nI N) :: .int 0 :: .ref d :: .int 0 :: .ref a :: rest)) rfl (by rw [X.2.2.1]; exact hlz) (rest := rest) rfl (by rw [X.2.1]; exact hdg) hframes (by show 2 * 0 + _ + _ ≤ _; omega)
  have e1 : copied (vp_cell cB (m1, .inr (.inr (.inr (.inr f))))) (vp_cell cB (n1, .inr (.inr (.inr (.inr g))))) 0 0 (nI N) = vp_cell cB (n1, .inr (.inr (.inr (.inr (va_cpy f g (0 : Int32).toNatClampNeg (0 : Int32).toNatClampNeg (nI N).toNatClampNeg))))) := by
    rw [vp_cell_q, vp_cell_q, vp_cell_q]
    exact va_copied (fun z => va_rf z) cB cB f g (by rw [z0, k3]; omega)
  rw [e1, z0, k3] at Y' step
  have hl : d < H.size := (Array.getElem?_eq_some_iff.mp hc1).1
  have hheap : ((T.setVm vm').setCell d (vp_cell cB (n1, .inr (.inr (.inr (.inr (va_cpy f g 0 0 N))))))).heap = H.setIfInBounds d (vp_cell cB (n1, .inr (.inr (.inr (.inr (va_cpy f g 0 0 N)))))) := by rw [← hT]; rfl
  have oq : ∀ q : Nat, q ≠ d → (H.setIfInBounds d (vp_cell cB (n1, .inr (.inr (.inr (.inr (va_cpy f g 0 0 N)))))))[q]? = H[q]? := fun q hq => by simp [Array.getElem?_setIfInBounds, Ne.symm hq]
  have I1 := hm_set (k := 0) I hd (show va_at D vwCl (d, .inl (cB, n1, .inr (.inr (.inr (.inr (va_cpy f g 0 0 N)))))) (H.setIfInBounds d _) from (show (H.setIfInBounds d _)[d]? = some _ by simp [Array.getElem?_setIfInBounds, hl])) (by simp) oq
  obtain ⟨t, g1, g2⟩ := kk _ _ _ hm_s (fun b hb => hm_n hb) ⟨I1.1, I1.2.1, ⟨I1.2.2.1.1, I1.2.2.1.2.1, fun q hq => by
      rcases List.mem_append.mp hq with h | h
      · exact I.2.2.1.2.2 q h
      · obtain ⟨w, -, hw⟩ := List.mem_map.mp h
        rw [← hw]
        exact I.2.1 d _ hd⟩, I1.2.2.2⟩ _ hheap Y'
  exact ⟨t, step t g1, g2⟩
end CG2

theorem cg_chn {v : Int32} (h : (v.toUInt32 % 65536).toInt32 = v) : narrow .char (.int v) = .int v ∧ fits .char (.int v) = true := by
  have k := pk_fc v
  rw [h] at k
  exact ⟨congrArg Value.int h, k⟩
theorem ht_C.weak {l : Launch} {D : va_G} {s0 : State} {y : MethodName} {b : ByteArray} {n : Nat} {ret : Option FieldType} {fr lo mc ms : Nat} {as : List Value} {Pre Pre2 : hm_T → hz_T → Prop} {Post Post2 : hm_T → hz_T → Option Value → hm_T → hz_T → Prop} (hM : ht_C l D s0 y b n ret fr lo mc ms as Pre Post) (h1 : ∀ h z, Pre2 h z → Pre h z) (h2 : ∀ h z v k w, Pre2 h z → Post h z v k w → Post2 h z v k w) : ht_C l D s0 y b n ret fr lo mc ms as Pre2 Post2 := by
  intro h z hp p e ha hc hk s m args below hf happ hpre ht
  obtain ⟨k, o, g1, g2, g3, ⟨⟨⟨v, k1, z1, ho, hR, q⟩, hF⟩, L, hL⟩⟩ := hM h z (h1 h z hp) p e ha hc hk s m args below hf happ hpre ht
  exact ⟨k, o, g1, g2, g3, ⟨⟨⟨v, k1, z1, ho, h2 h z v k1 z1 hp hR, q⟩, hF⟩, L, hL⟩⟩
theorem nI_255 {q : Nat} (h : q < 128) : ¬ (255 : Int32) < nI q := by
  intro k
  have := Int32.lt_iff_toInt_lt.mp k
  rw [nI_toInt (by omega)] at this
  have e : (255 : Int32).toInt = 255 := by decide
  omega
/-- StringBuilder.setLength(0) -/
def w_SB_set (dA : Nat → ClassId) (a : Nat) (i : Int32) (K : hm_T → hz_T → Prop) (h : hm_T) (z : hz_T) : Prop := ∃ (v : Nat) (xs : List Nat), jb dA h a v xs ∧ i = 0 ∧ ∀ h1 : hm_T, jb dA h1 a v [] → (∀ (b : Nat) (e : va_E), h b = some e → b ≠ a → h1 b = some e) → K h1 z
theorem cw_SB_set (l : Launch) (D : va_G) (dA : Nat → ClassId) (s0 : State) (hE : ms_EV D dA s0) (a : Nat) (i : Int32) (h0 : hm_T) (z0 : hz_T) (K : hm_T → hz_T → Prop) (hg : w_SB_set dA a i K h0 z0) : ht_C l D s0 yM20 bM20 2 (Option.none : Option Jvm.ClassFile.FieldType) 5 165 1 142 [.ref a, .int i] (fun h z => h = h0 ∧ z = z0) (fun h z vv h1 z1 => vv = none ∧ K h1 z1) := by
  obtain ⟨v, xs, ⟨mb, n, f, c9, c8, p1, p2, p3, p4, p5⟩, rfl, hK⟩ := hg
  refine (c_SBset l D dA s0 hE a v xs.length n mb f p1 (by have := tx_n142 p1; omega)).lift.weak (fun h z q => ?_) (fun h z vv h1 z1 q r => ?_)
  · rw [q.1]; exact hm_has2 c9 c8 (hm_ne c9 c8 rfl)
  · obtain ⟨w, ⟨mb1, e1, e2⟩, q9, e3⟩ := r
    rw [q.1] at q9
    rw [q.2] at e3
    subst e2 e3
    have k := hm_aft2 q9
    refine ⟨e1, hK h1 ⟨mb1, n, f, k.1, k.2.1, p1, Nat.zero_le _, p3, fun i hi => absurd hi (Nat.not_lt_zero _), fun c hc => absurd hc List.not_mem_nil⟩ (fun b e hb n1 => ?_)⟩
    by_cases hv : b = v
    · subst hv
      rw [k.2.1, ← c8, hb]
    · exact k.2.2.2 b e hb n1 hv
/-- StringBuilder.append(char) -/
def w_SB_app (dA : Nat → ClassId) (a : Nat) (x : Int32) (K : Option Nat → hm_T → hz_T → Prop) (h : hm_T) (z : hz_T) : Prop := ∃ (v : Nat) (xs : List Nat) (q : Nat), jb dA h a v xs ∧ xs.length < 120 ∧ x = nI q ∧ q < 128 ∧ ∀ (h1 : hm_T) (u : Nat), jb dA h1 a u (xs ++ [q]) → (u = v ∨ h u = none) → (∀ (b : Nat) (e : va_E), h b = some e → b ≠ a → b ≠ v → h1 b = some e) → K (some a) h1 z
theorem cw_SB_app (l : Launch) (D : va_G) (dA : Nat → ClassId) (s0 : State) (hE : ms_EV D dA s0) (a : Nat) (x : Int32) (h0 : hm_T) (z0 : hz_T) (K : Option Nat → hm_T → hz_T → Prop) (hg : w_SB_app dA a x K h0 z0) : ht_C l D s0 yM18 bM18 2 (Option.some (Jvm.ClassFile.FieldType.object "java/lang/StringBuilder")) 5 165 1 142 [.ref a, .int x] (fun h z => h = h0 ∧ z = z0) (fun h z vv h1 z1 => ∃ v, vv = some (va_rf v) ∧ K v h1 z1) := by
  obtain ⟨v, xs, q, ⟨mb, n, f, c9, c8, p1, p2, p3, p4, p5⟩, hl, rfl, hq, hK⟩ := hg
  refine (c_SBapp l D dA s0 hE a v xs.length n mb f (nI q) p1 p2 hl (nI_255 hq) p3).lift.weak (fun h z q => ?_) (fun h z vv h1 z1 q r => ?_)
  · rw [q.1]; exact hm_has2 c9 c8 (hm_ne c9 c8 rfl)
  · obtain ⟨w, ⟨u, m, g, e1, g1, g2, g3, g4, g5, e2⟩, q9, e3⟩ := r
    rw [q.1] at q9
    rw [q.2] at e3
    subst e2 e3
    have k := hm_aft2 q9
    refine ⟨some a, e1, hK h1 u ⟨mb, m, g, ?_, k.2.1, g1, ?_, g5, tx_b_app p4 g3 (fun i hi => ?_), ?_⟩ k.2.2.1 k.2.2.2⟩
    · rw [k.1, List.length_append]; rfl
    · rw [List.length_append]; exact g2
    · have : i = 0 := by simp at hi; omega
      subst this
      rw [Nat.add_zero, g4]
      exact tx_i2b hq
    · intro c hc
      rcases List.mem_append.mp hc with h | h
      · exact p5 c h
      · rw [List.mem_singleton.mp h]; exact hq
/-- StringBuilder.append(String) -/
def w_SB_apS (dA : Nat → ClassId) (a : Nat) (t : Option Nat) (K : Option Nat → hm_T → hz_T → Prop) (h : hm_T) (z : hz_T) : Prop := ∃ (t1 v : Nat) (xs : List Nat) (w : Nat) (ys : List Nat), t = some t1 ∧ jb dA h a v xs ∧ z t1 = some (w, ys) ∧ xs.length + ys.length ≤ 34 ∧ (∀ c ∈ ys, c < 128) ∧ ∀ (h1 : hm_T) (u : Nat), jb dA h1 a u (xs ++ ys) → (u = v ∨ h u = none) → (∀ (b : Nat) (e : va_E), h b = some e → b ≠ a → b ≠ v → h1 b = some e) → K (some a) h1 z
theorem cw_SB_apS (l : Launch) (D : va_G) (dA : Nat → ClassId) (s0 : State) (hE : ms_EV D dA s0) (a : Nat) (t : Option Nat) (h0 : hm_T) (z0 : hz_T) (K : Option Nat → hm_T → hz_T → Prop) (hg : w_SB_apS dA a t K h0 z0) : ht_C l D s0 yM132 bM132 2 (Option.some (Jvm.ClassFile.FieldType.object "java/lang/StringBuilder")) 5 167 1 142 [.ref a, va_rf t] (fun h z => h = h0 ∧ z = z0) (fun h z vv h1 z1 => ∃ v, vv = some (va_rf v) ∧ K v h1 z1) := by
  obtain ⟨t1, v, xs, w, ys, rfl, ⟨mb, n, f, c9, c8, p1, p2, p3, p4, p5⟩, hz, hl, hy, hK⟩ := hg
  refine (c_SBapS l D dA s0 hE t1 w ys a v xs.length mb n f p1 p2 hl hy p3).weak (fun h z q => ?_) (fun h z vv h1 z1 q r => ?_)
  · rw [q.1, q.2]; exact ⟨hz, c9, c8⟩
  · obtain ⟨e1, e3, u, m, g, g1, g2, g3, g4, g5, g6, g7, g8, g9⟩ := r
    rw [q.1] at g8 g9
    rw [q.2] at e3
    subst e3
    refine ⟨some a, e1, hK h1 u ⟨mb, m, g, ?_, g4, g1, ?_, g7, tx_b_app p4 g5 g6, ?_⟩ g8 g9⟩
    · rw [g3, List.length_append]
    · rw [List.length_append]; exact g2
    · intro c hc
      rcases List.mem_append.mp hc with h | h
      · exact p5 c h
      · exact hy c h
/-- StringBuilder.toString -/
def w_SB_str (dA : Nat → ClassId) (a : Nat) (K : Option Nat → hm_T → hz_T → Prop) (h : hm_T) (z : hz_T) : Prop := ∃ (v : Nat) (xs : List Nat), jb dA h a v xs ∧ ∀ (h1 : hm_T) (z1 : hz_T) (t u : Nat), z1 t = some (u, xs) → (∀ (b : Nat) (e : va_E), h b = some e → h1 b = some e) → (∀ (b : Nat) (e : Nat × List Nat), z b = some e → z1 b = some e) → K (some t) h1 z1
theorem cw_SB_str (l : Launch) (D : va_G) (dA : Nat → ClassId) (s0 : State) (hE : ms_EV D dA s0) (a : Nat) (h0 : hm_T) (z0 : hz_T) (K : Option Nat → hm_T → hz_T → Prop) (hg : w_SB_str dA a K h0 z0) : ht_C l D s0 yM26 bM26 1 (Option.some (Jvm.ClassFile.FieldType.object "java/lang/String")) 5 191 2 146 [.ref a] (fun h z => h = h0 ∧ z = z0) (fun h z vv h1 z1 => ∃ v, vv = some (va_rf v) ∧ K v h1 z1) := by
  obtain ⟨v, xs, ⟨mb, n, f, c9, c8, p1, p2, p3, p4, p5⟩, hK⟩ := hg
  refine (ms_C.liftZ (xs := xs) hE.1 2 rfl (c_toStr l D dA s0 hE a v xs.length n mb f p2 (tx_n142 p1) p3) (fun vv w r => ?_)).weak (fun h z q => ?_) (fun h z vv h1 z1 q r => ?_)
  · obtain ⟨t, u, g, e1, g1, g2, e2⟩ := r
    exact ⟨t, u, g, e1, e2, fun i hi => (g1 i hi).trans (p4 i hi)⟩
  · rw [q.1]; exact hm_has2 c9 c8 (hm_ne c9 c8 rfl)
  · obtain ⟨k1, t, u, e1, k2, k3⟩ := r
    rw [q.1] at k1
    rw [q.2] at k3
    exact ⟨some t, e1, hK h1 z1 t u k2 k1 k3⟩
/-- String.substring -/
def w_S_sub (dA : Nat → ClassId) (t : Nat) (i j : Int32) (K : Option Nat → hm_T → hz_T → Prop) (h : hm_T) (z : hz_T) : Prop := ∃ (w : Nat) (xs : List Nat) (a b : Nat), z t = some (w, xs) ∧ i = nI a ∧ j = nI b ∧ a ≤ b ∧ b ≤ xs.length ∧ xs.length ≤ 142 ∧ (∀ c ∈ xs, c < 128) ∧ ∀ (h1 : hm_T) (z1 : hz_T) (t1 u : Nat), z1 t1 = some (u, (xs.drop a).take (b - a)) → (∀ (b : Nat) (e : va_E), h b = some e → h1 b = some e) → (∀ (b : Nat) (e : Nat × List Nat), z b = some e → z1 b = some e) → K (some t1) h1 z1
theorem w_S_sub_z {dA : Nat → ClassId} {t : Nat} {i j : Int32} {K : Option Nat → hm_T → hz_T → Prop} {h : hm_T} {z : hz_T} (hg : w_S_sub dA t i j K h z) : ∃ (u : Nat) (xs : List Nat), z t = some (u, xs) := by
  obtain ⟨w, xs, a, b, hz, -⟩ := hg
  exact ⟨w, xs, hz⟩
theorem cw_S_sub (l : Launch) (D : va_G) (dA : Nat → ClassId) (s0 : State) (hE : ms_EV D dA s0) (t : Nat) (i j : Int32) (h0 : hm_T) (z0 : hz_T) (K : Option Nat → hm_T → hz_T → Prop) (hg : w_S_sub dA t i j K h0 z0) : ht_C l D s0 yM127 bM127 5 (Option.some (Jvm.ClassFile.FieldType.object "java/lang/String")) 4 168 2 146 [.ref t, .int i, .int j] (fun h z => h = h0 ∧ z = z0) (fun h z vv h1 z1 => ∃ v, vv = some (va_rf v) ∧ K v h1 z1) := by
  obtain ⟨w, xs, a, b, hz, rfl, rfl, p1, p2, p3, p4, hK⟩ := hg
  refine (c_Ssub l D dA s0 hE t w xs a b p1 p2 p3 p4).weak (fun h z q => ?_) (fun h z vv h1 z1 q r => ?_)
  · rw [q.2]; exact hz
  · obtain ⟨⟨t1, u1, e1, e2⟩, k1, k3⟩ := r
    rw [q.1] at k1
    rw [q.2] at k3
    exact ⟨some t1, e1, hK h1 z1 t1 u1 e2 k1 k3⟩
