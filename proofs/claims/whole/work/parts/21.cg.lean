-- the class's methods as predicates: what a step asks of the map, and what it goes on with
theorem cat_rf (o : Option Nat) : (va_rf o).category = 1 := by cases o <;> rfl
theorem cat_int (x : Int32) : (Value.int x).category = 1 := rfl
theorem cat_ref (x : Nat) : (Value.ref x).category = 1 := rfl
theorem cat_null : Value.null.category = 1 := rfl
theorem cat_long (x : Int64) : (Value.long x).category = 2 := rfl
/-- a null or a reference -/
theorem rf_or (o : Option Nat) : va_rf o = .null ∨ ∃ a, va_rf o = .ref a := by
  cases o with
  | none => exact Or.inl rfl
  | some a => exact Or.inr ⟨a, rfl⟩
def cg_d (o : Option Nat) (K : Nat → Prop) : Prop := ∃ a, o = some a ∧ K a
def cg_I (h : hm_T) (ci k a : Nat) (K : Int32 → Prop) : Prop := ∃ (fs : List Value) (x : Int32), h a = some (.inr (ci, fs)) ∧ fs[k]? = some (.int x) ∧ K x
def cg_L (h : hm_T) (ci k a : Nat) (K : Int64 → Prop) : Prop := ∃ (fs : List Value) (x : Int64), h a = some (.inr (ci, fs)) ∧ fs[k]? = some (.long x) ∧ K x
def cg_R (h : hm_T) (ci k a : Nat) (K : Option Nat → Prop) : Prop := ∃ (fs : List Value) (x : Option Nat), h a = some (.inr (ci, fs)) ∧ fs[k]? = some (va_rf x) ∧ K x
def cg_p (h : hm_T) (ci k a : Nat) (v : Value) (K : hm_T → Prop) : Prop := ∃ (fs : List Value), h a = some (.inr (ci, fs)) ∧ k < fs.length ∧ K (hm_u h a (.inr (ci, fs.set k v)))
/-- the object at a is of class ci -/
def cg_c (h : hm_T) (ci a : Nat) (K : Prop) : Prop := ∃ fs : List Value, h a = some (.inr (ci, fs)) ∧ K
def cg_ai (dA : Nat → ClassId) (h : hm_T) (t a : Nat) (i : Int32) (K : Int32 → Prop) : Prop := ∃ (n : Nat) (f : Nat → Int32), h a = some (.inl (dA t, n, .inl f)) ∧ vp_in i n ∧ K (f i.toNatClampNeg)
def cg_ar (dA : Nat → ClassId) (h : hm_T) (t a : Nat) (i : Int32) (K : Option Nat → Prop) : Prop := ∃ (n : Nat) (f : Nat → Option Nat), h a = some (.inl (dA t, n, .inr (.inr (.inr (.inr f))))) ∧ vp_in i n ∧ K (f i.toNatClampNeg)
def cg_al (dA : Nat → ClassId) (h : hm_T) (t a : Nat) (K : Int32 → Prop) : Prop := ∃ (n : Nat) (f : Nat → Int32), h a = some (.inl (dA t, n, .inl f)) ∧ K (nI n)
def cg_si (dA : Nat → ClassId) (h : hm_T) (t a : Nat) (i x : Int32) (K : hm_T → Prop) : Prop := ∃ (n : Nat) (f : Nat → Int32), h a = some (.inl (dA t, n, .inl f)) ∧ vp_in i n ∧ K (hm_u h a (.inl (dA t, n, .inl (upd f i.toNatClampNeg x))))
def cg_sr (dA : Nat → ClassId) (h : hm_T) (t a : Nat) (i : Int32) (v : Nat) (K : hm_T → Prop) : Prop := ∃ (n : Nat) (f : Nat → Option Nat), h a = some (.inl (dA t, n, .inr (.inr (.inr (.inr f))))) ∧ vp_in i n ∧ K (hm_u h a (.inl (dA t, n, .inr (.inr (.inr (.inr (va_up f i.toNatClampNeg (some v))))))))
/-- a String constant's address -/
def cg_lit (z : hz_T) (xs : List Nat) (K : Nat → Prop) : Prop := ∀ a u : Nat, z a = some (u, xs) → K a
def jd_len (z : hz_T) (t : Nat) (K : Int32 → Prop) : Prop := ∃ (u : Nat) (xs : List Nat), z t = some (u, xs) ∧ K (nI xs.length)
def jd_emp (z : hz_T) (t : Nat) (K : Int32 → Prop) : Prop := ∃ (u : Nat) (xs : List Nat), z t = some (u, xs) ∧ xs.length < 2 ^ 31 ∧ K (if xs.length = 0 then 1 else 0)
def jd_at (z : hz_T) (t : Nat) (i : Int32) (K : Int32 → Prop) : Prop := ∃ (u : Nat) (xs : List Nat) (j : Nat), z t = some (u, xs) ∧ i = nI j ∧ j < xs.length ∧ xs.length < 2 ^ 31 ∧ (∀ c ∈ xs, c < 128) ∧ K (nI (xs.getD j 0))
def jd_idx (z : hz_T) (t : Nat) (i : Int32) (K : Int32 → Prop) : Prop := ∃ (u : Nat) (xs : List Nat) (q : Nat), z t = some (u, xs) ∧ i = nI q ∧ xs.length < 2 ^ 30 ∧ (∀ c ∈ xs, c < 128) ∧ q < 128 ∧ K (if q ∈ xs then nI (xs.idxOf q) else -1)
def jd_eq (z : hz_T) (t t2 : Nat) (K : Int32 → Prop) : Prop := ∃ (u : Nat) (xs : List Nat) (u2 : Nat) (ys : List Nat), z t = some (u, xs) ∧ z t2 = some (u2, ys) ∧ xs.length < 2 ^ 31 ∧ ys.length < 2 ^ 31 ∧ (∀ c ∈ xs, c < 128) ∧ (∀ c ∈ ys, c < 128) ∧ K (if xs = ys then 1 else 0)
def jd_sz (h : hm_T) (a : Nat) (K : Int32 → Prop) : Prop := ∃ (d k : Nat) (mo : Int32), h a = some (.inr (4, [.int mo, .ref d, .int (nI k)])) ∧ K (nI k)
def jd_no (h : hm_T) (a : Nat) (K : Int32 → Prop) : Prop := ∃ (d k : Nat) (mo : Int32), h a = some (.inr (4, [.int mo, .ref d, .int (nI k)])) ∧ k < 2 ^ 31 ∧ K (if k = 0 then 1 else 0)
def jd_get (dA : Nat → ClassId) (h : hm_T) (a : Nat) (i : Int32) (K : Nat → Prop) : Prop := ∃ (d k : Nat) (mo : Int32) (n j q : Nat) (f : Nat → Option Nat), h a = some (.inr (4, [.int mo, .ref d, .int (nI k)])) ∧ h d = some (.inl (dA 6, n, .inr (.inr (.inr (.inr f))))) ∧ i = nI j ∧ j < k ∧ k ≤ n ∧ n < 2 ^ 31 ∧ f j = some q ∧ K q
def cg_z (v : Int32) (K : Prop) : Prop := (v = 0 ∨ v = 1) ∧ K
def cg_ch (v : Int32) (K : Prop) : Prop := (v.toUInt32 % 65536).toInt32 = v ∧ K
theorem cg_zn {v : Int32} (h : v = 0 ∨ v = 1) : narrow .boolean (.int v) = .int v ∧ fits .boolean (.int v) = true := by
  rcases h with rfl | rfl <;> exact ⟨rfl, rfl⟩
theorem hm_eqU {h h1 : hm_T} {a : Nat} {e : va_E} (e9 : h1 a = some e) (f9 : ∀ b, b ≠ a → h1 b = h b) : h1 = hm_u h a e := by
  funext b
  by_cases q : b = a
  · subst q; rw [e9, hm_s]
  · rw [f9 b q, hm_n q]
section CGR
variable {p : Program} {l : Launch} {e : Env} {R : Room} {s s0 : State} {m : MethodId} {args : Array Value} {below : List Frame} {meth : Method} {c : Code} {H : Heap} {locs : List Loc} {cells slots : Nat} {Q : State → Prop}
variable {cc : ByteArray} {pc : Nat} {ls : Array Slot} {rest : List Value} {o : Option Nat}
theorem lv_aload_nR (hexec : p.tables.exec = Jvm.exec) (hb : c.code = cc) {k : Fin 4} {i : Nat} (hdg : decode cc pc = .ok (.aload_n k, 1)) (hi : (k : Nat) = i) (hl : ls[i]? = some (.val (va_rf o))) (kk : W p l e R s m args below meth c H locs cells slots Q (F0 m (pc + 1) ls (va_rf o :: rest))) : W p l e R s m args below meth c H locs cells slots Q (F0 m pc ls rest) := by
  cases o with
  | none => exact lv_aload_nN hexec hb hdg hi hl kk
  | some a => exact lv_aload_n hexec hb hdg hi hl kk
theorem lv_aloadR (hexec : p.tables.exec = Jvm.exec) (hb : c.code = cc) {i : Nat} (hdg : decode cc pc = .ok (.aload i, 2)) (hl : ls[i]? = some (.val (va_rf o))) (kk : W p l e R s m args below meth c H locs cells slots Q (F0 m (pc + 2) ls (va_rf o :: rest))) : W p l e R s m args below meth c H locs cells slots Q (F0 m pc ls rest) := by
  cases o with
  | none => exact lv_aloadN hexec hb hdg hl kk
  | some a => exact lv_aload hexec hb hdg hl kk
theorem lv_astore_nR (hexec : p.tables.exec = Jvm.exec) (hb : c.code = cc) {k : Fin 4} {i nL : Nat} {lv lv' : List (Nat × Value)} (hdg : decode cc pc = .ok (.astore_n k, 1)) (hi : (k : Nat) = i) (h : lv_has ls nL lv) (hn : i < nL) (hl : (i, va_rf o) :: lv.filter (fun q => !(q.1 == i) && !(q.1 + 1 == i && q.2.category == 2)) = lv')
    (kk : ∀ ls' : Array Slot, lv_has ls' nL lv' → W p l e R s m args below meth c H locs cells slots Q (F0 m (pc + 1) ls' rest)) : W p l e R s m args below meth c H locs cells slots Q (F0 m pc ls (va_rf o :: rest)) := by
  cases o with
  | none => exact lv_astore_nN hexec hb hdg hi h hn hl kk
  | some a => exact lv_astore_n hexec hb hdg hi h hn hl kk
theorem lv_astoreR (hexec : p.tables.exec = Jvm.exec) (hb : c.code = cc) {i nL : Nat} {lv lv' : List (Nat × Value)} (hdg : decode cc pc = .ok (.astore i, 2)) (h : lv_has ls nL lv) (hn : i < nL) (hl : (i, va_rf o) :: lv.filter (fun q => !(q.1 == i) && !(q.1 + 1 == i && q.2.category == 2)) = lv')
    (kk : ∀ ls' : Array Slot, lv_has ls' nL lv' → W p l e R s m args below meth c H locs cells slots Q (F0 m (pc + 2) ls' rest)) : W p l e R s m args below meth c H locs cells slots Q (F0 m pc ls (va_rf o :: rest)) := by
  cases o with
  | none => exact lv_astoreN hexec hb hdg h hn hl kk
  | some a => exact lv_astore hexec hb hdg h hn hl kk
theorem lv_ifnullR (hexec : p.tables.exec = Jvm.exec) (hb : c.code = cc) {off : Int} {tgt : Nat} (hdg : decode cc pc = .ok (.ifnull off, 3)) (ht : (pc : Int) + off = (tgt : Int)) (kt : o = none → W p l e R s m args below meth c H locs cells slots Q (F0 m tgt ls rest)) (kf : ¬ o = none → W p l e R s m args below meth c H locs cells slots Q (F0 m (pc + 3) ls rest)) : W p l e R s m args below meth c H locs cells slots Q (F0 m pc ls (va_rf o :: rest)) := by
  cases o with
  | none => exact lv_ifnullN hexec hb hdg ht (kt rfl)
  | some a => exact lv_ifnull hexec hb hdg (kf (fun q => by cases q))
theorem lv_ifnonnullR (hexec : p.tables.exec = Jvm.exec) (hb : c.code = cc) {off : Int} {tgt : Nat} (hdg : decode cc pc = .ok (.ifnonnull off, 3)) (ht : (pc : Int) + off = (tgt : Int)) (kt : ¬ o = none → W p l e R s m args below meth c H locs cells slots Q (F0 m tgt ls rest)) (kf : o = none → W p l e R s m args below meth c H locs cells slots Q (F0 m (pc + 3) ls rest)) : W p l e R s m args below meth c H locs cells slots Q (F0 m pc ls (va_rf o :: rest)) := by
  cases o with
  | none => exact lv_ifnonnullN hexec hb hdg (kf rfl)
  | some a => exact lv_ifnonnull hexec hb hdg ht (kt (fun q => by cases q))
end CGR
