-- how many bits a long has
def msk (c : Nat) : Nat → Nat
  | 0 => 0
  | k + 1 => c + 256 * msk c k
theorem and256 {x0 y0 x1 y1 : Nat} (hx : x0 < 256) (hy : y0 < 256) : (x0 + 256 * x1) &&& (y0 + 256 * y1) = (x0 &&& y0) + 256 * (x1 &&& y1) := by
  have h3 : x0 &&& y0 < 2 ^ 8 := Nat.and_lt_two_pow _ hy
  refine Nat.eq_of_testBit_eq (fun i => ?_)
  rw [Nat.testBit_and, Nat.add_comm x0, Nat.add_comm y0, Nat.add_comm (x0 &&& y0)]
  have e := fun (a b : Nat) (hb : b < 2 ^ 8) => Nat.testBit_two_pow_mul_add a hb i
  have e1 := e x1 x0 hx
  have e2 := e y1 y0 hy
  have e3 := e (x1 &&& y1) (x0 &&& y0) h3
  rw [show (2 ^ 8 : Nat) = 256 from rfl] at e1 e2 e3
  rw [e1, e2, e3]
  by_cases q : i < 8
  · rw [if_pos q, if_pos q, if_pos q, Nat.testBit_and]
  · rw [if_neg q, if_neg q, if_neg q, Nat.testBit_and]
def pf1 (b : Nat) : Nat := b - ((b / 2) &&& 85)
def pf2 (b : Nat) : Nat := (b &&& 51) + ((b / 4) &&& 51)
def pf3 (b : Nat) : Nat := (b + b / 16) &&& 15
def pg1 (k N : Nat) : Nat := N - ((N / 2) &&& msk 85 k)
def pg2 (k N : Nat) : Nat := (N &&& msk 51 k) + ((N / 4) &&& msk 51 k)
def pg3 (k N : Nat) : Nat := (N + N / 16) &&& msk 15 k
def pcB (k N : Nat) : Nat := ((List.range k).filter (fun i => N.testBit i)).length
theorem pt1 : ∀ a : Fin 256, ∀ e : Fin 2, ((a.1 / 2 + 128 * e.1) &&& 85 = (a.1 / 2) &&& 85) ∧ ((a.1 / 2) &&& 85) ≤ a.1 ∧ pf1 a.1 < 256 := by decide +kernel
theorem pt2 : ∀ a : Fin 256, ∀ e : Fin 4, ((a.1 / 4 + 64 * e.1) &&& 51 = (a.1 / 4) &&& 51) ∧ pf2 (pf1 a.1) ≤ 68 ∧ pf2 (pf1 a.1) % 16 ≤ 4 ∧ pf2 (pf1 a.1) / 16 ≤ 4 := by decide +kernel
theorem pt3 : ∀ a : Fin 69, ∀ e : Fin 5, a.1 % 16 ≤ 4 → a.1 / 16 ≤ 4 → ((a.1 + a.1 / 16 + 16 * e.1) &&& 15 = pf3 a.1) ∧ pf3 a.1 ≤ 8 := by decide +kernel
theorem pt4 : ∀ a : Fin 256, pf3 (pf2 (pf1 a.1)) = pcB 8 a.1 := by decide +kernel
theorem pg1_s {k a r : Nat} (ha : a < 256) (hk : (r / 2) &&& msk 85 k ≤ r) : pg1 (k + 1) (a + 256 * r) = pf1 a + 256 * pg1 k r := by
  unfold pg1 pf1
  have t := pt1 ⟨a, ha⟩ ⟨r % 2, Nat.mod_lt _ (by decide)⟩
  simp only [] at t
  rw [show (a + 256 * r) / 2 = (a / 2 + 128 * (r % 2)) + 256 * (r / 2) by omega]
  rw [show msk 85 (k + 1) = 85 + 256 * msk 85 k from rfl, and256 (by omega) (by decide), t.1]
  omega
theorem pg1_le {k : Nat} : ∀ r : Nat, (r / 2) &&& msk 85 k ≤ r := fun r => Nat.le_trans Nat.and_le_left (Nat.div_le_self _ _)
theorem pg2_s {k a r : Nat} (ha : a < 256) : pg2 (k + 1) (pf1 a + 256 * r) = pf2 (pf1 a) + 256 * pg2 k r := by
  have t1 := pt1 ⟨a, ha⟩ 0
  unfold pg2
  have hb : pf1 a < 256 := t1.2.2
  rw [show (pf1 a + 256 * r) / 4 = (pf1 a / 4 + 64 * (r % 4)) + 256 * (r / 4) by omega]
  rw [show msk 51 (k + 1) = 51 + 256 * msk 51 k from rfl, and256 hb (by decide), and256 (by omega) (by decide)]
  have t := pt2 ⟨pf1 a, hb⟩ ⟨r % 4, Nat.mod_lt _ (by decide)⟩
  simp only [] at t
  rw [t.1]
  unfold pf2
  omega
theorem pg3_s {k a r : Nat} (ha : a < 256) (hr : r % 16 ≤ 4) : pg3 (k + 1) (pf2 (pf1 a) + 256 * r) = pf3 (pf2 (pf1 a)) + 256 * pg3 k r := by
  have t := pt2 ⟨a, ha⟩ 0
  simp only [] at t
  obtain ⟨_, t1, t2, t3⟩ := t
  unfold pg3
  rw [show pf2 (pf1 a) + 256 * r + (pf2 (pf1 a) + 256 * r) / 16 = (pf2 (pf1 a) + pf2 (pf1 a) / 16 + 16 * (r % 16)) + 256 * (r + r / 16) by omega]
  rw [show msk 15 (k + 1) = 15 + 256 * msk 15 k from rfl, and256 (by omega) (by decide)]
  have u := pt3 ⟨pf2 (pf1 a), by omega⟩ ⟨r % 16, by omega⟩ t2 t3
  simp only [] at u
  rw [u.1]
def sumB : Nat → Nat → Nat
  | 0, _ => 0
  | k + 1, N => pcB 8 (N % 256) + 256 * sumB k (N / 256)
theorem pg_all : ∀ (k N : Nat), N < 256 ^ k → pg2 k (pg1 k N) % 16 ≤ 4 ∧ pg3 k (pg2 k (pg1 k N)) = sumB k N := by
  intro k
  induction k with
  | zero =>
    intro N hN
    have e : N = 0 := by simpa using hN
    subst e
    exact ⟨by decide, by decide⟩
  | succ k ih =>
    intro N hN
    have e : N = N % 256 + 256 * (N / 256) := by omega
    have ha : N % 256 < 256 := Nat.mod_lt _ (by decide)
    have hr : N / 256 < 256 ^ k := by
      rw [Nat.pow_succ] at hN
      exact Nat.div_lt_of_lt_mul (by rw [Nat.mul_comm]; exact hN)
    obtain ⟨i1, i2⟩ := ih _ hr
    have t := pt2 ⟨N % 256, ha⟩ 0
    simp only [] at t
    have e1 : pg1 (k + 1) N = pf1 (N % 256) + 256 * pg1 k (N / 256) := by
      conv => lhs; rw [e]
      exact pg1_s ha (pg1_le _)
    have e2 : pg2 (k + 1) (pg1 (k + 1) N) = pf2 (pf1 (N % 256)) + 256 * pg2 k (pg1 k (N / 256)) := by
      rw [e1]; exact pg2_s ha
    refine ⟨by rw [e2]; omega, ?_⟩
    rw [e2, pg3_s ha i1, i2]
    show _ = pcB 8 (N % 256) + 256 * sumB k (N / 256)
    rw [← pt4 ⟨N % 256, ha⟩]
theorem pcB_add (k N : Nat) : pcB (8 + k) N = pcB 8 (N % 256) + pcB k (N / 256) := by
  unfold pcB
  rw [List.range_add, List.filter_append, List.length_append, List.filter_map, List.length_map]
  congr 1
  · congr 1
    refine List.filter_congr (fun i hi => ?_)
    have h8 : i < 8 := List.mem_range.mp hi
    have := Nat.testBit_mod_two_pow N 8 i
    rw [show (2 ^ 8 : Nat) = 256 from rfl] at this
    rw [this, decide_eq_true h8, Bool.true_and]
  · congr 1
    refine List.filter_congr (fun i _ => ?_)
    have := Nat.testBit_shiftRight (i := 8) (j := i) N
    rw [Nat.shiftRight_eq_div_pow, show (2 ^ 8 : Nat) = 256 from rfl] at this
    exact this.symm
theorem pcB_le (N : Nat) : pcB 8 N ≤ 8 := by
  unfold pcB
  exact Nat.le_trans (List.length_filter_le _ _) (by rw [List.length_range]; exact Nat.le_refl _)
def nvl (x : Int64) : Nat := x.toBitVec.toNat
theorem nvl_and {a b : Int64} : nvl (a &&& b) = nvl a &&& nvl b := by unfold nvl; rw [Int64.toBitVec_and, BitVec.toNat_and]
theorem nvl_sub {a b : Int64} (h : nvl b ≤ nvl a) : nvl (a - b) = nvl a - nvl b := by
  unfold nvl at *
  rw [Int64.toBitVec_sub, BitVec.toNat_sub_of_le (BitVec.le_def.mpr h)]
theorem nvl_add {a b : Int64} (h : nvl a + nvl b < 2 ^ 64) : nvl (a + b) = nvl a + nvl b := by
  unfold nvl at *
  rw [Int64.toBitVec_add, BitVec.toNat_add, Nat.mod_eq_of_lt h]
theorem nvl_shr {a : Int64} {s : UInt64} {k : Nat} (h : s.toNat % 64 = k) : nvl (a.toUInt64 >>> s).toInt64 = nvl a / 2 ^ k := by
  show (a.toUInt64 >>> s).toNat = a.toUInt64.toNat / 2 ^ k
  rw [UInt64.toNat_shiftRight, h, Nat.shiftRight_eq_div_pow]
theorem nvl_lt (a : Int64) : nvl a < 2 ^ 64 := a.toBitVec.isLt
theorem nvl_int {v : Int64} {p : Nat} (hp : p < 128) (h : nvl v % 256 = p) : v.toInt32 &&& 127 = nI p := by
  rw [← Int32.toBitVec_inj, Int32.toBitVec_and, Int64.toBitVec_toInt32]
  apply BitVec.eq_of_toNat_eq
  rw [BitVec.toNat_and, BitVec.signExtend_eq_setWidth_of_le _ (by decide), BitVec.toNat_setWidth]
  have e1 : (127 : Int32).toBitVec.toNat = 2 ^ 7 - 1 := by decide
  have e2 : (nI p).toBitVec.toNat = p := by
    show (BitVec.ofNat 32 p).toNat = p
    rw [BitVec.toNat_ofNat]
    exact Nat.mod_eq_of_lt (by omega)
  rw [e1, e2, Nat.and_two_pow_sub_one_eq_mod]
  unfold nvl at h
  omega
theorem cg_lt_of {α : Type} {x : α} {K : α → Prop} (h : ∀ v, v = x → K v) : cg_lt x K := ⟨x, rfl, h x rfl⟩
theorem msk_vals : nvl 6148914691236517205 = msk 85 8 ∧ nvl 3689348814741910323 = msk 51 8 ∧ nvl 1085102592571150095 = msk 15 8 ∧ msk 51 8 < 2 ^ 62 := by decide +kernel
theorem sumB8 {N s : Nat} (h : s = sumB 8 N) : ∃ p0 p1 p2 p3 p4 p5 p6 p7 : Nat, (p0 ≤ 8 ∧ p1 ≤ 8 ∧ p2 ≤ 8 ∧ p3 ≤ 8 ∧ p4 ≤ 8 ∧ p5 ≤ 8 ∧ p6 ≤ 8 ∧ p7 ≤ 8) ∧ s = p0 + 256 * p1 + 65536 * p2 + 16777216 * p3 + 4294967296 * p4 + 1099511627776 * p5 + 281474976710656 * p6 + 72057594037927936 * p7 ∧ pcB 64 N = p0 + p1 + p2 + p3 + p4 + p5 + p6 + p7 := by
  have st : ∀ k N, pcB (8 + k) N = pcB 8 (N % 256) + pcB k (N / 256) := pcB_add
  generalize e0 : N / 256 = N1 at *
  generalize e1 : N1 / 256 = N2 at *
  generalize e2 : N2 / 256 = N3 at *
  generalize e3 : N3 / 256 = N4 at *
  generalize e4 : N4 / 256 = N5 at *
  generalize e5 : N5 / 256 = N6 at *
  generalize e6 : N6 / 256 = N7 at *
  have f0 : pcB 64 N = pcB 8 (N % 256) + pcB 56 N1 := by rw [← e0]; exact st 56 N
  have f1 : pcB 56 N1 = pcB 8 (N1 % 256) + pcB 48 N2 := by rw [← e1]; exact st 48 N1
  have f2 : pcB 48 N2 = pcB 8 (N2 % 256) + pcB 40 N3 := by rw [← e2]; exact st 40 N2
  have f3 : pcB 40 N3 = pcB 8 (N3 % 256) + pcB 32 N4 := by rw [← e3]; exact st 32 N3
  have f4 : pcB 32 N4 = pcB 8 (N4 % 256) + pcB 24 N5 := by rw [← e4]; exact st 24 N4
  have f5 : pcB 24 N5 = pcB 8 (N5 % 256) + pcB 16 N6 := by rw [← e5]; exact st 16 N5
  have f6 : pcB 16 N6 = pcB 8 (N6 % 256) + pcB 8 N7 := by rw [← e6]; exact st 8 N6
  have f7 : pcB 8 N7 = pcB 8 (N7 % 256) + pcB 0 (N7 / 256) := st 0 N7
  have f8 : pcB 0 (N7 / 256) = 0 := rfl
  have g : sumB 8 N = pcB 8 (N % 256) + 256 * (pcB 8 (N1 % 256) + 256 * (pcB 8 (N2 % 256) + 256 * (pcB 8 (N3 % 256) + 256 * (pcB 8 (N4 % 256) + 256 * (pcB 8 (N5 % 256) + 256 * (pcB 8 (N6 % 256) + 256 * (pcB 8 (N7 % 256) + 256 * 0))))))) := by
    rw [← e6, ← e5, ← e4, ← e3, ← e2, ← e1, ← e0]
    rfl
  rw [f8] at f7
  have b0 := pcB_le (N % 256)
  have b1 := pcB_le (N1 % 256)
  have b2 := pcB_le (N2 % 256)
  have b3 := pcB_le (N3 % 256)
  have b4 := pcB_le (N4 % 256)
  have b5 := pcB_le (N5 % 256)
  have b6 := pcB_le (N6 % 256)
  have b7 := pcB_le (N7 % 256)
  clear st e0 e1 e2 e3 e4 e5 e6 f8
  rw [f1, f2, f3, f4, f5, f6, f7] at f0
  clear f1 f2 f3 f4 f5 f6 f7
  generalize pcB 8 (N % 256) = p0 at *
  generalize pcB 8 (N1 % 256) = p1 at *
  generalize pcB 8 (N2 % 256) = p2 at *
  generalize pcB 8 (N3 % 256) = p3 at *
  generalize pcB 8 (N4 % 256) = p4 at *
  generalize pcB 8 (N5 % 256) = p5 at *
  generalize pcB 8 (N6 % 256) = p6 at *
  generalize pcB 8 (N7 % 256) = p7 at *
  refine ⟨p0, p1, p2, p3, p4, p5, p6, p7, ⟨b0, b1, b2, b3, b4, b5, b6, b7⟩, ?_, ?_⟩
  · rw [h, g]
    clear h g f0
    omega
  · rw [f0]
    clear h g f0
    omega
theorem nvl_as {a : Int64} {s : UInt64} {k : Nat} (h : s.toNat % 64 = k) (ha : nvl a < 2 ^ 63) : nvl (a + (a.toUInt64 >>> s).toInt64) = nvl a + nvl a / 2 ^ k := by
  have := Nat.div_le_self (nvl a) (2 ^ k)
  rw [nvl_add, nvl_shr h]
  rw [nvl_shr h]
  omega
theorem hn_div {p X B : Nat} (h : p < B) : (p + B * X) / B = X := by
  rw [Nat.add_mul_div_left _ _ (by omega), Nat.div_eq_of_lt h, Nat.zero_add]
theorem hn_mod {p X B : Nat} (h : p < B) : (p + B * X) % B = p := by
  rw [Nat.add_mul_mod_self_left, Nat.mod_eq_of_lt h]
theorem dg3 {p0 p1 p2 p3 p4 p5 p6 p7 s3 : Nat} (b : p0 ≤ 8 ∧ p1 ≤ 8 ∧ p2 ≤ 8 ∧ p3 ≤ 8 ∧ p4 ≤ 8 ∧ p5 ≤ 8 ∧ p6 ≤ 8 ∧ p7 ≤ 8) (es : s3 = p0 + 256 * p1 + 65536 * p2 + 16777216 * p3 + 4294967296 * p4 + 1099511627776 * p5 + 281474976710656 * p6 + 72057594037927936 * p7) : s3 / 256 = p1 + 256 * p2 + 65536 * p3 + 16777216 * p4 + 4294967296 * p5 + 1099511627776 * p6 + 281474976710656 * p7 ∧ s3 < 2 ^ 60 := by
  refine ⟨?_, by omega⟩
  have e : s3 = p0 + 256 * (p1 + 256 * p2 + 65536 * p3 + 16777216 * p4 + 4294967296 * p5 + 1099511627776 * p6 + 281474976710656 * p7) := by omega
  rw [e]
  exact hn_div (by omega)
theorem dg4 {p0 p1 p2 p3 p4 p5 p6 p7 s4 : Nat} (b : p0 ≤ 8 ∧ p1 ≤ 8 ∧ p2 ≤ 8 ∧ p3 ≤ 8 ∧ p4 ≤ 8 ∧ p5 ≤ 8 ∧ p6 ≤ 8 ∧ p7 ≤ 8) (es : s4 = (p0 + p1) + 256 * (p1 + p2) + 65536 * (p2 + p3) + 16777216 * (p3 + p4) + 4294967296 * (p4 + p5) + 1099511627776 * (p5 + p6) + 281474976710656 * (p6 + p7) + 72057594037927936 * p7) : s4 / 65536 = (p2 + p3) + 256 * (p3 + p4) + 65536 * (p4 + p5) + 16777216 * (p5 + p6) + 4294967296 * (p6 + p7) + 1099511627776 * p7 ∧ s4 < 2 ^ 61 := by
  refine ⟨?_, by omega⟩
  have e : s4 = ((p0 + p1) + 256 * (p1 + p2)) + 65536 * ((p2 + p3) + 256 * (p3 + p4) + 65536 * (p4 + p5) + 16777216 * (p5 + p6) + 4294967296 * (p6 + p7) + 1099511627776 * p7) := by omega
  rw [e]
  exact hn_div (by omega)
theorem dg5 {p0 p1 p2 p3 p4 p5 p6 p7 s5 : Nat} (b : p0 ≤ 8 ∧ p1 ≤ 8 ∧ p2 ≤ 8 ∧ p3 ≤ 8 ∧ p4 ≤ 8 ∧ p5 ≤ 8 ∧ p6 ≤ 8 ∧ p7 ≤ 8) (es : s5 = (p0 + p1 + p2 + p3) + 256 * (p1 + p2 + p3 + p4) + 65536 * (p2 + p3 + p4 + p5) + 16777216 * (p3 + p4 + p5 + p6) + 4294967296 * (p4 + p5 + p6 + p7) + 1099511627776 * (p5 + p6 + p7) + 281474976710656 * (p6 + p7) + 72057594037927936 * p7) : s5 / 4294967296 = (p4 + p5 + p6 + p7) + 256 * (p5 + p6 + p7) + 65536 * (p6 + p7) + 16777216 * p7 ∧ s5 < 2 ^ 62 := by
  refine ⟨?_, by omega⟩
  have e : s5 = ((p0 + p1 + p2 + p3) + 256 * (p1 + p2 + p3 + p4) + 65536 * (p2 + p3 + p4 + p5) + 16777216 * (p3 + p4 + p5 + p6)) + 4294967296 * ((p4 + p5 + p6 + p7) + 256 * (p5 + p6 + p7) + 65536 * (p6 + p7) + 16777216 * p7) := by omega
  rw [e]
  exact hn_div (by omega)
theorem dg6 {p0 p1 p2 p3 p4 p5 p6 p7 s6 : Nat} (b : p0 ≤ 8 ∧ p1 ≤ 8 ∧ p2 ≤ 8 ∧ p3 ≤ 8 ∧ p4 ≤ 8 ∧ p5 ≤ 8 ∧ p6 ≤ 8 ∧ p7 ≤ 8) {X : Nat} (es : s6 = (p0 + p1 + p2 + p3 + p4 + p5 + p6 + p7) + 256 * X) : s6 % 256 = p0 + p1 + p2 + p3 + p4 + p5 + p6 + p7 := by
  rw [es]
  exact hn_mod (by omega)
theorem dg_all {p0 p1 p2 p3 p4 p5 p6 p7 s3 s4 s5 s6 : Nat} (b : p0 ≤ 8 ∧ p1 ≤ 8 ∧ p2 ≤ 8 ∧ p3 ≤ 8 ∧ p4 ≤ 8 ∧ p5 ≤ 8 ∧ p6 ≤ 8 ∧ p7 ≤ 8) (es : s3 = p0 + 256 * p1 + 65536 * p2 + 16777216 * p3 + 4294967296 * p4 + 1099511627776 * p5 + 281474976710656 * p6 + 72057594037927936 * p7) (e4 : s3 < 2 ^ 63 → s4 = s3 + s3 / 256) (e5 : s4 < 2 ^ 63 → s5 = s4 + s4 / 65536) (e6 : s5 < 2 ^ 63 → s6 = s5 + s5 / 4294967296) : s6 % 256 = p0 + p1 + p2 + p3 + p4 + p5 + p6 + p7 := by
  obtain ⟨a3, b3⟩ := dg3 b es
  have e4 := e4 (by omega)
  have f4 : s4 = (p0 + p1) + 256 * (p1 + p2) + 65536 * (p2 + p3) + 16777216 * (p3 + p4) + 4294967296 * (p4 + p5) + 1099511627776 * (p5 + p6) + 281474976710656 * (p6 + p7) + 72057594037927936 * p7 := by
    rw [a3, es] at e4
    clear e5 e6 a3 b3 b es
    omega
  obtain ⟨a4, b4⟩ := dg4 b f4
  have e5 := e5 (by omega)
  have f5 : s5 = (p0 + p1 + p2 + p3) + 256 * (p1 + p2 + p3 + p4) + 65536 * (p2 + p3 + p4 + p5) + 16777216 * (p3 + p4 + p5 + p6) + 4294967296 * (p4 + p5 + p6 + p7) + 1099511627776 * (p5 + p6 + p7) + 281474976710656 * (p6 + p7) + 72057594037927936 * p7 := by
    rw [a4, f4] at e5
    clear e4 e6 a3 b3 b es a4 b4 f4
    omega
  obtain ⟨a5, b5⟩ := dg5 b f5
  have e6 := e6 (by omega)
  refine dg6 b (X := (p1 + p2 + p3 + p4 + p5 + p6 + p7) + 256 * (p2 + p3 + p4 + p5 + p6 + p7) + 65536 * (p3 + p4 + p5 + p6 + p7) + 16777216 * (p4 + p5 + p6 + p7) + 4294967296 * (p5 + p6 + p7) + 1099511627776 * (p6 + p7) + 281474976710656 * p7) ?_
  rw [a5, f5] at e6
  clear e4 e5 a3 b3 b es a4 b4 f4 f5 a5 b5
  omega
theorem cg_bits {dA : Nat → ClassId} {h : hm_T} {z : hz_T} {y : Int64} {K : Int32 → hm_T → hz_T → Prop} (hK : K (nI (pcB 64 (nvl y))) h z) : w_Long_bitCount dA y K h z := by
  have hy : nvl y < 256 ^ 8 := nvl_lt y
  obtain ⟨m5, m3, mf, mb⟩ := msk_vals
  unfold w_Long_bitCount
  refine cg_lt_of (fun v1 e1 => cg_lt_of (fun v2 e2 => cg_lt_of (fun v3 e3 => cg_lt_of (fun v4 e4 => cg_lt_of (fun v5 e5 => cg_lt_of (fun v6 e6 => ?_))))))
  have s1 : ((1 : Int32).toInt64.toUInt64 &&& Int64.toUInt64 63).toNat % 64 = 1 := by decide
  have s2 : ((2 : Int32).toInt64.toUInt64 &&& Int64.toUInt64 63).toNat % 64 = 2 := by decide
  have s4 : ((4 : Int32).toInt64.toUInt64 &&& Int64.toUInt64 63).toNat % 64 = 4 := by decide
  have s8 : ((8 : Int32).toInt64.toUInt64 &&& Int64.toUInt64 63).toNat % 64 = 8 := by decide
  have s16 : ((16 : Int32).toInt64.toUInt64 &&& Int64.toUInt64 63).toNat % 64 = 16 := by decide
  have s32 : ((32 : Int32).toInt64.toUInt64 &&& Int64.toUInt64 63).toNat % 64 = 32 := by decide
  have n1 : nvl v1 = pg1 8 (nvl y) := by
    rw [e1, nvl_sub, nvl_and, nvl_shr s1, m5]
    · rfl
    · rw [nvl_and, nvl_shr s1]
      exact Nat.le_trans Nat.and_le_left (Nat.div_le_self _ _)
  have bd : (nvl v1 &&& msk 51 8) + (nvl v1 / 2 ^ 2 &&& msk 51 8) < 2 ^ 63 := by
    have a1 := @Nat.and_le_right (nvl v1) (msk 51 8)
    have a2 := @Nat.and_le_right (nvl v1 / 2 ^ 2) (msk 51 8)
    generalize nvl v1 &&& msk 51 8 = x1 at *
    generalize nvl v1 / 2 ^ 2 &&& msk 51 8 = x2 at *
    generalize msk 51 8 = x3 at *
    clear hK hy e1 e2 e3 e4 e5 e6 s1 s2 s4 s8 s16 s32 n1 m5 mf m3
    omega
  have n2 : nvl v2 = (nvl v1 &&& msk 51 8) + (nvl v1 / 2 ^ 2 &&& msk 51 8) := by
    rw [e2, nvl_add, nvl_and, nvl_and, nvl_shr s2, m3]
    rw [nvl_and, nvl_and, nvl_shr s2, m3]
    exact Nat.lt_trans bd (by decide)
  have b2 : nvl v2 < 2 ^ 63 := by rw [n2]; exact bd
  have n3 : nvl v3 = pg3 8 (nvl v2) := by
    rw [e3, nvl_and, nvl_as s4 b2, mf]
    rfl
  have n3' : nvl v3 = sumB 8 (nvl y) := by
    rw [n3, show nvl v2 = pg2 8 (nvl v1) from n2, n1]
    exact (pg_all 8 _ hy).2
  obtain ⟨p0, p1, p2, p3, p4, p5, p6, p7, bb, es, ep⟩ := sumB8 n3'
  have q6 : nvl v6 % 256 = p0 + p1 + p2 + p3 + p4 + p5 + p6 + p7 := dg_all (s4 := nvl v4) (s5 := nvl v5) (s6 := nvl v6) bb es (fun q => by rw [e4]; exact nvl_as s8 q) (fun q => by rw [e5]; exact nvl_as s16 q) (fun q => by rw [e6]; exact nvl_as s32 q)
  rw [nvl_int (p := pcB 64 (nvl y)) (by rw [ep]; clear hK hy e1 e2 e3 e4 e5 e6 n1 n2 n3 n3' es q6 bd b2 s1 s2 s4 s8 s16 s32 m5 m3 mf mb ep; omega) (by rw [q6, ep])]
  exact hK
-- sets of places in the class: bits, lists in a direction, positions
theorem bR.at {m : Int64} {S : Nat → Bool} (h : bR m S) {y : Nat} (hy : y < 64) : bt m y = S y := h y hy
theorem bR.mk {m : Int64} {S : Nat → Bool} (h : ∀ y, y < 64 → bt m y = S y) : bR m S := h
theorem b_and {a c : Int64} {y : Nat} : bt (a &&& c) y = (bt a y && bt c y) := by
  unfold bt
  rw [Int64.toBitVec_and, BitVec.getLsbD_and]
theorem b_not {a : Int64} {y : Nat} (hy : y < 64) : bt (a ^^^ (-1 : Int64)) y = !bt a y := by
  unfold bt
  rw [Int64.toBitVec_xor, BitVec.getLsbD_xor]
  have e : (-1 : Int64).toBitVec.getLsbD y = true := by
    show (BitVec.allOnes 64).getLsbD y = true
    rw [BitVec.getLsbD_allOnes, decide_eq_true hy]
  rw [e, Bool.xor_true]
theorem b_bit {m : Int64} {x y : Nat} (hx : x < 64) (hy : y < 64) : bt (m &&& ((1 : Int64) <<< ((nI x).toInt64 &&& 63))) y = (bt m x && decide (y = x)) := by
  rw [b_and, b_one hx hy]
  by_cases q : y = x
  · rw [q]
  · rw [decide_eq_false q, Bool.and_false, Bool.and_false]
theorem b_bit0 {m : Int64} {x : Nat} (hx : x < 64) : mm_cmp (m &&& ((1 : Int64) <<< ((nI x).toInt64 &&& 63))) 0 = 0 ↔ bt m x = false := by
  rw [b_cmp0]
  constructor
  · intro w
    have := w x hx
    rw [b_bit hx hx, decide_eq_true rfl, Bool.and_true] at this
    exact this
  · intro w y hy
    rw [b_bit hx hy, w, Bool.false_and]
def rgL (f t : Nat) : Int64 := ((1 : Int64) <<< ((nI t).toInt64 &&& 63)) - ((1 : Int64) <<< ((nI f).toInt64 &&& 63))
theorem b_rg0 : ∀ t, t < 41 → ∀ y, y < 64 → bt (((1 : Int64) <<< (Int64.ofNat t)) - 1) y = decide (y < t) := by decide +kernel
theorem b_rg1 : ∀ t, t < 41 → ∀ f, f < 41 → f ≤ t → ((1 : Int64) <<< (Int64.ofNat t)) - ((1 : Int64) <<< (Int64.ofNat f)) = (((1 : Int64) <<< (Int64.ofNat t)) - 1) ^^^ (((1 : Int64) <<< (Int64.ofNat f)) - 1) := by decide +kernel
theorem b_rng {f t y : Nat} (hf : f ≤ t) (ht : t ≤ 40) (hy : y < 64) : bt (rgL f t) y = decide (f ≤ y ∧ y < t) := by
  unfold rgL
  rw [b_sh (by omega), b_sh (by omega), b_rg1 t (by omega) f (by omega) hf]
  have e : ∀ a c : Int64, bt (a ^^^ c) y = (bt a y ^^ bt c y) := fun a c => by
    unfold bt
    rw [Int64.toBitVec_xor, BitVec.getLsbD_xor]
  rw [e, b_rg0 t (by omega) y hy, b_rg0 f (by omega) y hy]
  by_cases q1 : y < f
  · rw [decide_eq_true q1, decide_eq_true (show y < t by omega), decide_eq_false (by omega)]
    rfl
  · rw [decide_eq_false q1, Bool.xor_false]
    by_cases q2 : y < t
    · rw [decide_eq_true q2, decide_eq_true (by omega)]
    · rw [decide_eq_false q2, decide_eq_false (by omega)]
/-- the long that a loop over the places makes -/
def bO (S : Nat → Bool) : Nat → Int64
  | 0 => 0
  | k + 1 => bO S k ||| (if S k = true then (1 : Int64) <<< ((nI k).toInt64 &&& 63) else 0)
theorem b_O {S : Nat → Bool} {y : Nat} (hy : y < 64) : ∀ k, k ≤ 64 → bt (bO S k) y = (decide (y < k) && S y) := by
  intro k
  induction k with
  | zero => intro _; rw [decide_eq_false (by omega), Bool.false_and]; exact b_zero
  | succ k ih =>
    intro hk
    show bt (bO S k ||| _) y = _
    rw [b_or, ih (by omega)]
    by_cases q : y = k
    · subst q
      rw [decide_eq_false (Nat.lt_irrefl _), Bool.false_and, Bool.false_or, decide_eq_true (Nat.lt_succ_self _), Bool.true_and]
      cases e : S y with
      | true => rw [if_pos rfl, b_one (by omega) hy, decide_eq_true rfl]
      | false => rw [if_neg (by decide)]; exact b_zero
    · have e2 : bt (if S k = true then (1 : Int64) <<< ((nI k).toInt64 &&& 63) else 0) y = false := by
        cases e : S k with
        | true => rw [if_pos rfl, b_one (by omega) hy, decide_eq_false q]
        | false => rw [if_neg (by decide)]; exact b_zero
      rw [e2, Bool.or_false]
      by_cases q2 : y < k
      · rw [decide_eq_true q2, decide_eq_true (show y < k + 1 by omega)]
      · rw [decide_eq_false q2, decide_eq_false (show ¬ y < k + 1 by omega)]
theorem bO_eq {S : Nat → Bool} {n : Nat} {m : Int64} (hn : n ≤ 40) (h : ∀ y, y < 64 → bt m y = (decide (y < n) && S y)) : m = bO S n := b_ext (fun y hy => by rw [h y hy, b_O hy n (by omega)])
theorem bO_cg {S S2 : Nat → Bool} : ∀ n : Nat, (∀ y, y < n → S y = S2 y) → bO S n = bO S2 n := by
  intro n
  induction n with
  | zero => intro _; rfl
  | succ n ih =>
    intro h
    show bO S n ||| _ = bO S2 n ||| _
    rw [ih (fun y hy => h y (by omega)), h n (by omega)]
-- lists in a direction
def srt (bk : Bool) (l : List Nat) : Prop := l.Pairwise (fun a b => if bk = true then b < a else a < b)
def dirL (n : Nat) (bk : Bool) : List Nat := if bk = true then (List.range n).reverse else List.range n
theorem srt_as {bk : Bool} {a b : Nat} (h1 : if bk = true then b < a else a < b) (h2 : if bk = true then a < b else b < a) : False := by
  cases bk with
  | true => simp at h1 h2; omega
  | false => simp at h1 h2; omega
theorem srt_ne {bk : Bool} {a b : Nat} (h1 : if bk = true then b < a else a < b) : a ≠ b := fun e => by subst e; exact srt_as h1 h1
theorem srt_ext {bk : Bool} : ∀ l1 l2 : List Nat, srt bk l1 → srt bk l2 → (∀ y, y ∈ l1 ↔ y ∈ l2) → l1 = l2 := by
  intro l1
  induction l1 with
  | nil =>
    intro l2 _ _ h
    cases l2 with
    | nil => rfl
    | cons x l2 => exact absurd ((h x).mpr List.mem_cons_self) (by simp)
  | cons x1 l1 ih =>
    intro l2 s1 s2 h
    cases l2 with
    | nil => exact absurd ((h x1).mp List.mem_cons_self) (by simp)
    | cons x2 l2 =>
      have p1 := List.pairwise_cons.mp s1
      have p2 := List.pairwise_cons.mp s2
      have e : x1 = x2 := by
        rcases List.mem_cons.mp ((h x1).mp List.mem_cons_self) with w1 | w1
        · exact w1
        · rcases List.mem_cons.mp ((h x2).mpr List.mem_cons_self) with w2 | w2
          · exact w2.symm
          · exact (srt_as (p1.1 x2 w2) (p2.1 x1 w1)).elim
      subst e
      congr 1
      refine ih l2 p1.2 p2.2 (fun y => ⟨fun w => ?_, fun w => ?_⟩)
      · rcases List.mem_cons.mp ((h y).mp (List.mem_cons_of_mem _ w)) with q | q
        · exact absurd q.symm (srt_ne (p1.1 y w))
        · exact q
      · rcases List.mem_cons.mp ((h y).mpr (List.mem_cons_of_mem _ w)) with q | q
        · exact absurd q.symm (srt_ne (p2.1 y w))
        · exact q
theorem srt_dir {n : Nat} {bk : Bool} : srt bk (dirL n bk) := by
  cases bk with
  | true =>
    show List.Pairwise _ (List.range n).reverse
    rw [List.pairwise_reverse]
    exact List.pairwise_lt_range.imp (fun h => by simpa using h)
  | false =>
    show List.Pairwise _ (List.range n)
    exact List.pairwise_lt_range.imp (fun h => by simpa using h)
theorem dir_mem {n y : Nat} {bk : Bool} : y ∈ dirL n bk ↔ y < n := by
  cases bk with
  | true => show y ∈ (List.range n).reverse ↔ _; rw [List.mem_reverse, List.mem_range]
  | false => exact List.mem_range
theorem srt.filter {bk : Bool} {l : List Nat} (s : srt bk l) (S : Nat → Bool) : srt bk (l.filter S) := List.Pairwise.sublist List.filter_sublist s
theorem srt_can {n : Nat} {bk : Bool} {l : List Nat} (s : srt bk l) (hl : ∀ y ∈ l, y < n) : (dirL n bk).filter (fun y => decide (y ∈ l)) = l := by
  refine srt_ext _ _ (srt_dir.filter _) s (fun y => ?_)
  rw [List.mem_filter, dir_mem, decide_eq_true_iff]
  exact ⟨fun h => h.2, fun h => ⟨hl y h, h⟩⟩
theorem srt.nodup {bk : Bool} {l : List Nat} (s : srt bk l) : l.Nodup := List.Pairwise.imp (fun h => srt_ne h) s
def posB (S : Nat → Bool) (p : Nat) : List Nat → Nat → Nat → Bool
  | [], _, _ => false
  | x :: L, c, y => if S x = true then (if c + 1 = p then decide (y = x) else posB S p L (c + 1) y) else posB S p L c y
theorem flt_past {neg : Bool} {p of : Nat} : ∀ (l : List Nat) (k y : Nat), p < k → (y ∈ q_flt (fun _ k _ => neg != decide (k = p)) of k l ↔ y ∈ l ∧ neg = true) := by
  intro l
  induction l with
  | nil => intro k y _; simp [q_flt]
  | cons x l ih =>
    intro k y hk
    have i1 := ih (k + 1) y (by omega)
    unfold q_flt
    rw [decide_eq_false (show ¬ k = p by omega)]
    cases neg with
    | true => rw [if_pos (by decide), List.mem_cons, List.mem_cons, i1]; simp
    | false => rw [if_neg (by decide), i1]; simp
theorem posB_no {S : Nat → Bool} {p : Nat} : ∀ (L : List Nat) (c y : Nat), y ∉ L → posB S p L c y = false := by
  intro L
  induction L with
  | nil => intro c y _; rfl
  | cons x L ih =>
    intro c y hy
    have h1 : y ≠ x := fun w => hy (by rw [w]; exact List.mem_cons_self)
    have h2 : y ∉ L := fun w => hy (List.mem_cons_of_mem _ w)
    unfold posB
    rw [ih _ y h2, ih _ y h2, decide_eq_false h1]
    cases S x with
    | true => rw [if_pos rfl]; split <;> rfl
    | false => rw [if_neg (by decide)]
theorem flt_pos {S : Nat → Bool} {neg : Bool} {p of : Nat} : ∀ (L : List Nat) (c y : Nat), L.Nodup → (y ∈ q_flt (fun _ k _ => neg != decide (k = p)) of (c + 1) (L.filter S) ↔ y ∈ L ∧ S y = true ∧ (neg != posB S p L c y) = true) := by
  intro L
  induction L with
  | nil => intro c y _; simp [q_flt]
  | cons x L ih =>
    intro c y nd
    obtain ⟨nx, nd⟩ := List.nodup_cons.mp nd
    rw [List.filter_cons]
    unfold posB
    cases e : S x with
    | false =>
      rw [if_neg (by decide), if_neg (by decide), ih c y nd, List.mem_cons]
      constructor
      · exact fun h => ⟨Or.inr h.1, h.2⟩
      · rintro ⟨h1 | h1, h2, h3⟩
        · rw [h1, e] at h2; cases h2
        · exact ⟨h1, h2, h3⟩
    | true =>
      rw [if_pos rfl, if_pos rfl]
      unfold q_flt
      by_cases q : c + 1 = p
      · rw [if_pos q, decide_eq_true q]
        have past := flt_past (neg := neg) (p := p) (of := of) (L.filter S) (c + 1 + 1) y (by omega)
        by_cases qy : y = x
        · subst qy
          rw [decide_eq_true rfl]
          cases neg with
          | true =>
            rw [if_neg (by decide), past, List.mem_filter]
            exact ⟨fun h => absurd h.1.1 nx, fun h => by simp at h⟩
          | false =>
            rw [if_pos (by decide)]
            exact ⟨fun _ => ⟨List.mem_cons_self, e, rfl⟩, fun _ => List.mem_cons_self⟩
        · rw [decide_eq_false qy, Bool.bne_false]
          have past2 : y ∈ q_flt (fun _ k _ => neg != decide (k = p)) of (c + 1 + 1) (L.filter S) ↔ y ∈ x :: L ∧ S y = true ∧ neg = true := by
            rw [past, List.mem_filter, List.mem_cons]
            exact ⟨fun h => ⟨Or.inr h.1.1, h.1.2, h.2⟩, fun h => ⟨⟨h.1.resolve_left qy, h.2.1⟩, h.2.2⟩⟩
          cases en : (neg != true) with
          | true => rw [if_pos rfl, List.mem_cons]; exact ⟨fun h => past2.mp (h.resolve_left qy), fun h => Or.inr (past2.mpr h)⟩
          | false => rw [if_neg (by decide)]; exact past2
      · rw [if_neg q, decide_eq_false q, Bool.bne_false]
        have i1 := ih (c + 1) y nd
        by_cases qy : y = x
        · subst qy
          rw [posB_no L (c + 1) y nx, Bool.bne_false]
          cases neg with
          | true => rw [if_pos rfl]; exact ⟨fun _ => ⟨List.mem_cons_self, e, rfl⟩, fun _ => List.mem_cons_self⟩
          | false =>
            rw [if_neg (by decide), i1]
            exact ⟨fun h => absurd h.1 nx, fun h => by cases h.2.2⟩
        · have i2 : y ∈ q_flt (fun _ k _ => neg != decide (k = p)) of (c + 1 + 1) (L.filter S) ↔ y ∈ x :: L ∧ S y = true ∧ (neg != posB S p L (c + 1) y) = true := by
            rw [i1, List.mem_cons]
            exact ⟨fun h => ⟨Or.inr h.1, h.2⟩, fun h => ⟨h.1.resolve_left qy, h.2⟩⟩
          cases en : neg with
          | true => rw [if_pos rfl, List.mem_cons]; rw [en] at i2; exact ⟨fun h => i2.mp (h.resolve_left qy), fun h => Or.inr (i2.mpr h)⟩
          | false => rw [if_neg (by decide)]; rw [en] at i2; exact i2
theorem flt_all {g : Nat → Bool} {of : Nat} : ∀ (l : List Nat) (k : Nat), q_flt (fun x _ _ => g x) of k l = l.filter g := by
  intro l
  induction l with
  | nil => intro k; rfl
  | cons x l ih =>
    intro k
    unfold q_flt
    rw [ih, List.filter_cons]
theorem flt_sub {h : Nat → Nat → Nat → Bool} {of : Nat} : ∀ (l : List Nat) (k : Nat), (q_flt h of k l).Sublist l := by
  intro l
  induction l with
  | nil => intro k; exact List.Sublist.refl _
  | cons x l ih =>
    intro k
    unfold q_flt
    by_cases e : h x k of = true
    · rw [if_pos e]; exact (ih (k + 1)).cons_cons x
    · rw [if_neg e]; exact (ih (k + 1)).cons x
theorem srt.flt {bk : Bool} {l : List Nat} {h : Nat → Nat → Nat → Bool} {of k : Nat} (s : srt bk l) : srt bk (q_flt h of k l) := List.Pairwise.sublist (flt_sub l k) s
/-- how many places there are -/
theorem srt_len {n : Nat} {bk : Bool} {l : List Nat} {m : Int64} (hn : n ≤ 40) (s : srt bk l) (hl : ∀ y ∈ l, y < n) (hm : bR m (fun y => decide (y ∈ l))) : pcB 64 (nvl m) = l.length := by
  have e1 : l.length = ((List.range n).filter (fun y => decide (y ∈ l))).length := by
    conv => lhs; rw [← srt_can s hl]
    cases bk with
    | true => show ((List.range n).reverse.filter _).length = _; rw [List.filter_reverse, List.length_reverse]
    | false => rfl
  have e2 : pcB 64 (nvl m) = ((List.range 64).filter (fun y => decide (y ∈ l))).length := by
    unfold pcB
    congr 1
    exact List.filter_congr (fun i hi => hm.at (List.mem_range.mp hi))
  rw [e1, e2, show (64 : Nat) = n + (64 - n) by omega, List.range_add, List.filter_append, List.length_append]
  have e3 : (List.map (fun x => n + x) (List.range (64 - n))).filter (fun y => decide (y ∈ l)) = [] := by
    rw [List.filter_eq_nil_iff]
    intro y hy w
    obtain ⟨i, _, rfl⟩ := List.mem_map.mp hy
    have := hl _ (of_decide_eq_true w)
    omega
  rw [e3]
  rfl
def dpl (n : Nat) (bk : Bool) (k : Nat) : Nat := if bk = true then n - 1 - k else k
theorem dir_drop {n k : Nat} {bk : Bool} (hk : k < n) : (dirL n bk).drop k = dpl n bk k :: (dirL n bk).drop (k + 1) := by
  cases bk with
  | true =>
    show (List.range n).reverse.drop k = (n - 1 - k) :: (List.range n).reverse.drop (k + 1)
    rw [List.drop_eq_getElem_cons (by simp; exact hk)]
    congr 1
    simp
  | false =>
    show (List.range n).drop k = k :: (List.range n).drop (k + 1)
    rw [List.drop_eq_getElem_cons (by simp; exact hk)]
    congr 1
    simp
