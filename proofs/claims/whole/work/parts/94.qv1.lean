-- how many bits a long has
def msk (c : Nat) : Nat → Nat
  | 0 => 0
  | k + 1 => c + 256 * msk c k
theorem and256 {x0 y0 x1 y1 : Nat} (hx : x0 < 256) (hy : y0 < 256) : (x0 + 256 * x1) &&& (y0 + 256 * y1) = (x0 &&& y0) + 256 * (x1 &&& y1) := by
  have h3 : x0 &&& y0 < 2 ^ 8 := Nat.and_lt_two_pow _ hy
  refine Nat.eq_of_testBit_eq (fun i => ?_)
  rw [Nat.testBit_and, Nat.add_comm x0, Nat.add_comm y0, Nat.add_comm (x0 &&& y0)]
  have e := fun (a b : Nat) (hb : b < 2 ^ 8) => Nat.testBit_two_pow_mul_add a hb i
  have e1 := e x1 x0 hx
  have e2 := e y1 y0 hy
  have e3 := e (x1 &&& y1) (x0 &&& y0) h3
  rw [show (2 ^ 8 : Nat) = 256 from rfl] at e1 e2 e3
  rw [e1, e2, e3]
  by_cases q : i < 8
  · rw [if_pos q, if_pos q, if_pos q, Nat.testBit_and]
  · rw [if_neg q, if_neg q, if_neg q, Nat.testBit_and]
def pf1 (b : Nat) : Nat := b - ((b / 2) &&& 85)
def pf2 (b : Nat) : Nat := (b &&& 51) + ((b / 4) &&& 51)
def pf3 (b : Nat) : Nat := (b + b / 16) &&& 15
def pg1 (k N : Nat) : Nat := N - ((N / 2) &&& msk 85 k)
def pg2 (k N : Nat) : Nat := (N &&& msk 51 k) + ((N / 4) &&& msk 51 k)
def pg3 (k N : Nat) : Nat := (N + N / 16) &&& msk 15 k
def pcB (k N : Nat) : Nat := ((List.range k).filter (fun i => N.testBit i)).length
theorem pt1 : ∀ a : Fin 256, ∀ e : Fin 2, ((a.1 / 2 + 128 * e.1) &&& 85 = (a.1 / 2) &&& 85) ∧ ((a.1 / 2) &&& 85) ≤ a.1 ∧ pf1 a.1 < 256 := by decide +kernel
theorem pt2 : ∀ a : Fin 256, ∀ e : Fin 4, ((a.1 / 4 + 64 * e.1) &&& 51 = (a.1 / 4) &&& 51) ∧ pf2 (pf1 a.1) ≤ 68 ∧ pf2 (pf1 a.1) % 16 ≤ 4 ∧ pf2 (pf1 a.1) / 16 ≤ 4 := by decide +kernel
theorem pt3 : ∀ a : Fin 69, ∀ e : Fin 5, a.1 % 16 ≤ 4 → a.1 / 16 ≤ 4 → ((a.1 + a.1 / 16 + 16 * e.1) &&& 15 = pf3 a.1) ∧ pf3 a.1 ≤ 8 := by decide +kernel
theorem pt4 : ∀ a : Fin 256, pf3 (pf2 (pf1 a.1)) = pcB 8 a.1 := by decide +kernel
theorem pg1_s {k a r : Nat} (ha : a < 256) (hk : (r / 2) &&& msk 85 k ≤ r) : pg1 (k + 1) (a + 256 * r) = pf1 a + 256 * pg1 k r := by
  unfold pg1 pf1
  have t := pt1 ⟨a, ha⟩ ⟨r % 2, Nat.mod_lt _ (by decide)⟩
  simp only [] at t
  rw [show (a + 256 * r) / 2 = (a / 2 + 128 * (r % 2)) + 256 * (r / 2) by omega]
  rw [show msk 85 (k + 1) = 85 + 256 * msk 85 k from rfl, and256 (by omega) (by decide), t.1]
  omega
theorem pg1_le {k : Nat} : ∀ r : Nat, (r / 2) &&& msk 85 k ≤ r := fun r => Nat.le_trans Nat.and_le_left (Nat.div_le_self _ _)
theorem pg2_s {k a r : Nat} (ha : a < 256) : pg2 (k + 1) (pf1 a + 256 * r) = pf2 (pf1 a) + 256 * pg2 k r := by
  have t1 := pt1 ⟨a, ha⟩ 0
  unfold pg2
  have hb : pf1 a < 256 := t1.2.2
  rw [show (pf1 a + 256 * r) / 4 = (pf1 a / 4 + 64 * (r % 4)) + 256 * (r / 4) by omega]
  rw [show msk 51 (k + 1) = 51 + 256 * msk 51 k from rfl, and256 hb (by decide), and256 (by omega) (by decide)]
  have t := pt2 ⟨pf1 a, hb⟩ ⟨r % 4, Nat.mod_lt _ (by decide)⟩
  simp only [] at t
  rw [t.1]
  unfold pf2
  omega
theorem pg3_s {k a r : Nat} (ha : a < 256) (hr : r % 16 ≤ 4) : pg3 (k + 1) (pf2 (pf1 a) + 256 * r) = pf3 (pf2 (pf1 a)) + 256 * pg3 k r := by
  have t := pt2 ⟨a, ha⟩ 0
  simp only [] at t
  obtain ⟨_, t1, t2, t3⟩ := t
  unfold pg3
  rw [show pf2 (pf1 a) + 256 * r + (pf2 (pf1 a) + 256 * r) / 16 = (pf2 (pf1 a) + pf2 (pf1 a) / 16 + 16 * (r % 16)) + 256 * (r + r / 16) by omega]
  rw [show msk 15 (k + 1) = 15 + 256 * msk 15 k from rfl, and256 (by omega) (by decide)]
  have u := pt3 ⟨pf2 (pf1 a), by omega⟩ ⟨r % 16, by omega⟩ t2 t3
  simp only [] at u
  rw [u.1]
def sumB : Nat → Nat → Nat
  | 0, _ => 0
  | k + 1, N => pcB 8 (N % 256) + 256 * sumB k (N / 256)
theorem pg_all : ∀ (k N : Nat), N < 256 ^ k → pg2 k (pg1 k N) % 16 ≤ 4 ∧ pg3 k (pg2 k (pg1 k N)) = sumB k N := by
  intro k
  induction k with
  | zero =>
    intro N hN
    have e : N = 0 := by simpa using hN
    subst e
    exact ⟨by decide, by decide⟩
  | succ k ih =>
    intro N hN
    have e : N = N % 256 + 256 * (N / 256) := by omega
    have ha : N % 256 < 256 := Nat.mod_lt _ (by decide)
    have hr : N / 256 < 256 ^ k := by
      rw [Nat.pow_succ] at hN
      exact Nat.div_lt_of_lt_mul (by rw [Nat.mul_comm]; exact hN)
    obtain ⟨i1, i2⟩ := ih _ hr
    have t := pt2 ⟨N % 256, ha⟩ 0
    simp only [] at t
    have e1 : pg1 (k + 1) N = pf1 (N % 256) + 256 * pg1 k (N / 256) := by
      conv => lhs; rw [e]
      exact pg1_s ha (pg1_le _)
    have e2 : pg2 (k + 1) (pg1 (k + 1) N) = pf2 (pf1 (N % 256)) + 256 * pg2 k (pg1 k (N / 256)) := by
      rw [e1]; exact pg2_s ha
    refine ⟨by rw [e2]; omega, ?_⟩
    rw [e2, pg3_s ha i1, i2]
    show _ = pcB 8 (N % 256) + 256 * sumB k (N / 256)
    rw [← pt4 ⟨N % 256, ha⟩]
theorem pcB_add (k N : Nat) : pcB (8 + k) N = pcB 8 (N % 256) + pcB k (N / 256) := by
  unfold pcB
  rw [List.range_add, List.filter_append, List.length_append, List.filter_map, List.length_map]
  congr 1
  · congr 1
    refine List.filter_congr (fun i hi => ?_)
    have h8 : i < 8 := List.mem_range.mp hi
    have := Nat.testBit_mod_two_pow N 8 i
    rw [show (2 ^ 8 : Nat) = 256 from rfl] at this
    rw [this, decide_eq_true h8, Bool.true_and]
  · congr 1
    refine List.filter_congr (fun i _ => ?_)
    have := Nat.testBit_shiftRight (i := 8) (j := i) N
    rw [Nat.shiftRight_eq_div_pow, show (2 ^ 8 : Nat) = 256 from rfl] at this
    exact this.symm
theorem pcB_le (N : Nat) : pcB 8 N ≤ 8 := by
  unfold pcB
  exact Nat.le_trans (List.length_filter_le _ _) (by rw [List.length_range]; exact Nat.le_refl _)
def nvl (x : Int64) : Nat := x.toBitVec.toNat
theorem nvl_and {a b : Int64} : nvl (a &&& b) = nvl a &&& nvl b := by unfold nvl; rw [Int64.toBitVec_and, BitVec.toNat_and]
theorem nvl_sub {a b : Int64} (h : nvl b ≤ nvl a) : nvl (a - b) = nvl a - nvl b := by
  unfold nvl at *
  rw [Int64.toBitVec_sub, BitVec.toNat_sub_of_le (BitVec.le_def.mpr h)]
theorem nvl_add {a b : Int64} (h : nvl a + nvl b < 2 ^ 64) : nvl (a + b) = nvl a + nvl b := by
  unfold nvl at *
  rw [Int64.toBitVec_add, BitVec.toNat_add, Nat.mod_eq_of_lt h]
theorem nvl_shr {a : Int64} {s : UInt64} {k : Nat} (h : s.toNat % 64 = k) : nvl (a.toUInt64 >>> s).toInt64 = nvl a / 2 ^ k := by
  show (a.toUInt64 >>> s).toNat = a.toUInt64.toNat / 2 ^ k
  rw [UInt64.toNat_shiftRight, h, Nat.shiftRight_eq_div_pow]
theorem nvl_lt (a : Int64) : nvl a < 2 ^ 64 := a.toBitVec.isLt
theorem nvl_int {v : Int64} {p : Nat} (hp : p < 128) (h : nvl v % 256 = p) : v.toInt32 &&& 127 = nI p := by
  rw [← Int32.toBitVec_inj, Int32.toBitVec_and, Int64.toBitVec_toInt32]
  apply BitVec.eq_of_toNat_eq
  rw [BitVec.toNat_and, BitVec.signExtend_eq_setWidth_of_le _ (by decide), BitVec.toNat_setWidth]
  have e1 : (127 : Int32).toBitVec.toNat = 2 ^ 7 - 1 := by decide
  have e2 : (nI p).toBitVec.toNat = p := by
    show (BitVec.ofNat 32 p).toNat = p
    rw [BitVec.toNat_ofNat]
    exact Nat.mod_eq_of_lt (by omega)
  rw [e1, e2, Nat.and_two_pow_sub_one_eq_mod]
  unfold nvl at h
  omega
theorem cg_lt_of {α : Type} {x : α} {K : α → Prop} (h : ∀ v, v = x → K v) : cg_lt x K := ⟨x, rfl, h x rfl⟩
theorem msk_vals : nvl 6148914691236517205 = msk 85 8 ∧ nvl 3689348814741910323 = msk 51 8 ∧ nvl 1085102592571150095 = msk 15 8 ∧ msk 51 8 < 2 ^ 62 := by decide +kernel
theorem sumB8 {N s : Nat} (h : s = sumB 8 N) : ∃ p0 p1 p2 p3 p4 p5 p6 p7 : Nat, (p0 ≤ 8 ∧ p1 ≤ 8 ∧ p2 ≤ 8 ∧ p3 ≤ 8 ∧ p4 ≤ 8 ∧ p5 ≤ 8 ∧ p6 ≤ 8 ∧ p7 ≤ 8) ∧ s = p0 + 256 * p1 + 65536 * p2 + 16777216 * p3 + 4294967296 * p4 + 1099511627776 * p5 + 281474976710656 * p6 + 72057594037927936 * p7 ∧ pcB 64 N = p0 + p1 + p2 + p3 + p4 + p5 + p6 + p7 := by
  have st : ∀ k N, pcB (8 + k) N = pcB 8 (N % 256) + pcB k (N / 256) := pcB_add
  generalize e0 : N / 256 = N1 at *
  generalize e1 : N1 / 256 = N2 at *
  generalize e2 : N2 / 256 = N3 at *
  generalize e3 : N3 / 256 = N4 at *
  generalize e4 : N4 / 256 = N5 at *
  generalize e5 : N5 / 256 = N6 at *
  generalize e6 : N6 / 256 = N7 at *
  have f0 : pcB 64 N = pcB 8 (N % 256) + pcB 56 N1 := by rw [← e0]; exact st 56 N
  have f1 : pcB 56 N1 = pcB 8 (N1 % 256) + pcB 48 N2 := by rw [← e1]; exact st 48 N1
  have f2 : pcB 48 N2 = pcB 8 (N2 % 256) + pcB 40 N3 := by rw [← e2]; exact st 40 N2
  have f3 : pcB 40 N3 = pcB 8 (N3 % 256) + pcB 32 N4 := by rw [← e3]; exact st 32 N3
  have f4 : pcB 32 N4 = pcB 8 (N4 % 256) + pcB 24 N5 := by rw [← e4]; exact st 24 N4
  have f5 : pcB 24 N5 = pcB 8 (N5 % 256) + pcB 16 N6 := by rw [← e5]; exact st 16 N5
  have f6 : pcB 16 N6 = pcB 8 (N6 % 256) + pcB 8 N7 := by rw [← e6]; exact st 8 N6
  have f7 : pcB 8 N7 = pcB 8 (N7 % 256) + pcB 0 (N7 / 256) := st 0 N7
  have f8 : pcB 0 (N7 / 256) = 0 := rfl
  have g : sumB 8 N = pcB 8 (N % 256) + 256 * (pcB 8 (N1 % 256) + 256 * (pcB 8 (N2 % 256) + 256 * (pcB 8 (N3 % 256) + 256 * (pcB 8 (N4 % 256) + 256 * (pcB 8 (N5 % 256) + 256 * (pcB 8 (N6 % 256) + 256 * (pcB 8 (N7 % 256) + 256 * 0))))))) := by
    rw [← e6, ← e5, ← e4, ← e3, ← e2, ← e1, ← e0]
    rfl
  rw [f8] at f7
  have b0 := pcB_le (N % 256)
  have b1 := pcB_le (N1 % 256)
  have b2 := pcB_le (N2 % 256)
  have b3 := pcB_le (N3 % 256)
  have b4 := pcB_le (N4 % 256)
  have b5 := pcB_le (N5 % 256)
  have b6 := pcB_le (N6 % 256)
  have b7 := pcB_le (N7 % 256)
  clear st e0 e1 e2 e3 e4 e5 e6 f8
  rw [f1, f2, f3, f4, f5, f6, f7] at f0
  clear f1 f2 f3 f4 f5 f6 f7
  generalize pcB 8 (N % 256) = p0 at *
  generalize pcB 8 (N1 % 256) = p1 at *
  generalize pcB 8 (N2 % 256) = p2 at *
  generalize pcB 8 (N3 % 256) = p3 at *
  generalize pcB 8 (N4 % 256) = p4 at *
  generalize pcB 8 (N5 % 256) = p5 at *
  generalize pcB 8 (N6 % 256) = p6 at *
  generalize pcB 8 (N7 % 256) = p7 at *
  refine ⟨p0, p1, p2, p3, p4, p5, p6, p7, ⟨b0, b1, b2, b3, b4, b5, b6, b7⟩, ?_, ?_⟩
  · rw [h, g]
    clear h g f0
    omega
  · rw [f0]
    clear h g f0
    omega
theorem nvl_as {a : Int64} {s : UInt64} {k : Nat} (h : s.toNat % 64 = k) (ha : nvl a < 2 ^ 63) : nvl (a + (a.toUInt64 >>> s).toInt64) = nvl a + nvl a / 2 ^ k := by
  have := Nat.div_le_self (nvl a) (2 ^ k)
  rw [nvl_add, nvl_shr h]
  rw [nvl_shr h]
  omega
theorem hn_div {p X B : Nat} (h : p < B) : (p + B * X) / B = X := by
  rw [Nat.add_mul_div_left _ _ (by omega), Nat.div_eq_of_lt h, Nat.zero_add]
theorem hn_mod {p X B : Nat} (h : p < B) : (p + B * X) % B = p := by
  rw [Nat.add_mul_mod_self_left, Nat.mod_eq_of_lt h]
theorem dg3 {p0 p1 p2 p3 p4 p5 p6 p7 s3 : Nat} (b : p0 ≤ 8 ∧ p1 ≤ 8 ∧ p2 ≤ 8 ∧ p3 ≤ 8 ∧ p4 ≤ 8 ∧ p5 ≤ 8 ∧ p6 ≤ 8 ∧ p7 ≤ 8) (es : s3 = p0 + 256 * p1 + 65536 * p2 + 16777216 * p3 + 4294967296 * p4 + 1099511627776 * p5 + 281474976710656 * p6 + 72057594037927936 * p7) : s3 / 256 = p1 + 256 * p2 + 65536 * p3 + 16777216 * p4 + 4294967296 * p5 + 1099511627776 * p6 + 281474976710656 * p7 ∧ s3 < 2 ^ 60 := by
  refine ⟨?_, by omega⟩
  have e : s3 = p0 + 256 * (p1 + 256 * p2 + 65536 * p3 + 16777216 * p4 + 4294967296 * p5 + 1099511627776 * p6 + 281474976710656 * p7) := by omega
  rw [e]
  exact hn_div (by omega)
theorem dg4 {p0 p1 p2 p3 p4 p5 p6 p7 s4 : Nat} (b : p0 ≤ 8 ∧ p1 ≤ 8 ∧ p2 ≤ 8 ∧ p3 ≤ 8 ∧ p4 ≤ 8 ∧ p5 ≤ 8 ∧ p6 ≤ 8 ∧ p7 ≤ 8) (es : s4 = (p0 + p1) + 256 * (p1 + p2) + 65536 * (p2 + p3) + 16777216 * (p3 + p4) + 4294967296 * (p4 + p5) + 1099511627776 * (p5 + p6) + 281474976710656 * (p6 + p7) + 72057594037927936 * p7) : s4 / 65536 = (p2 + p3) + 256 * (p3 + p4) + 65536 * (p4 + p5) + 16777216 * (p5 + p6) + 4294967296 * (p6 + p7) + 1099511627776 * p7 ∧ s4 < 2 ^ 61 := by
  refine ⟨?_, by omega⟩
  have e : s4 = ((p0 + p1) + 256 * (p1 + p2)) + 65536 * ((p2 + p3) + 256 * (p3 + p4) + 65536 * (p4 + p5) + 16777216 * (p5 + p6) + 4294967296 * (p6 + p7) + 1099511627776 * p7) := by omega
  rw [e]
  exact hn_div (by omega)
theorem dg5 {p0 p1 p2 p3 p4 p5 p6 p7 s5 : Nat} (b : p0 ≤ 8 ∧ p1 ≤ 8 ∧ p2 ≤ 8 ∧ p3 ≤ 8 ∧ p4 ≤ 8 ∧ p5 ≤ 8 ∧ p6 ≤ 8 ∧ p7 ≤ 8) (es : s5 = (p0 + p1 + p2 + p3) + 256 * (p1 + p2 + p3 + p4) + 65536 * (p2 + p3 + p4 + p5) + 16777216 * (p3 + p4 + p5 + p6) + 4294967296 * (p4 + p5 + p6 + p7) + 1099511627776 * (p5 + p6 + p7) + 281474976710656 * (p6 + p7) + 72057594037927936 * p7) : s5 / 4294967296 = (p4 + p5 + p6 + p7) + 256 * (p5 + p6 + p7) + 65536 * (p6 + p7) + 16777216 * p7 ∧ s5 < 2 ^ 62 := by
  refine ⟨?_, by omega⟩
  have e : s5 = ((p0 + p1 + p2 + p3) + 256 * (p1 + p2 + p3 + p4) + 65536 * (p2 + p3 + p4 + p5) + 16777216 * (p3 + p4 + p5 + p6)) + 4294967296 * ((p4 + p5 + p6 + p7) + 256 * (p5 + p6 + p7) + 65536 * (p6 + p7) + 16777216 * p7) := by omega
  rw [e]
  exact hn_div (by omega)
theorem dg6 {p0 p1 p2 p3 p4 p5 p6 p7 s6 : Nat} (b : p0 ≤ 8 ∧ p1 ≤ 8 ∧ p2 ≤ 8 ∧ p3 ≤ 8 ∧ p4 ≤ 8 ∧ p5 ≤ 8 ∧ p6 ≤ 8 ∧ p7 ≤ 8) {X : Nat} (es : s6 = (p0 + p1 + p2 + p3 + p4 + p5 + p6 + p7) + 256 * X) : s6 % 256 = p0 + p1 + p2 + p3 + p4 + p5 + p6 + p7 := by
  rw [es]
  exact hn_mod (by omega)
theorem dg_all {p0 p1 p2 p3 p4 p5 p6 p7 s3 s4 s5 s6 : Nat} (b : p0 ≤ 8 ∧ p1 ≤ 8 ∧ p2 ≤ 8 ∧ p3 ≤ 8 ∧ p4 ≤ 8 ∧ p5 ≤ 8 ∧ p6 ≤ 8 ∧ p7 ≤ 8) (es : s3 = p0 + 256 * p1 + 65536 * p2 + 16777216 * p3 + 4294967296 * p4 + 1099511627776 * p5 + 281474976710656 * p6 + 72057594037927936 * p7) (e4 : s3 < 2 ^ 63 → s4 = s3 + s3 / 256) (e5 : s4 < 2 ^ 63 → s5 = s4 + s4 / 65536) (e6 : s5 < 2 ^ 63 → s6 = s5 + s5 / 4294967296) : s6 % 256 = p0 + p1 + p2 + p3 + p4 + p5 + p6 + p7 := by
  obtain ⟨a3, b3⟩ := dg3 b es
  have e4 := e4 (by omega)
  have f4 : s4 = (p0 + p1) + 256 * (p1 + p2) + 65536 * (p2 + p3) + 16777216 * (p3 + p4) + 4294967296 * (p4 + p5) + 1099511627776 * (p5 + p6) + 281474976710656 * (p6 + p7) + 72057594037927936 * p7 := by
    rw [a3, es] at e4
    clear e5 e6 a3 b3 b es
    omega
  obtain ⟨a4, b4⟩ := dg4 b f4
  have e5 := e5 (by omega)
  have f5 : s5 = (p0 + p1 + p2 + p3) + 256 * (p1 + p2 + p3 + p4) + 65536 * (p2 + p3 + p4 + p5) + 16777216 * (p3 + p4 + p5 + p6) + 4294967296 * (p4 + p5 + p6 + p7) + 1099511627776 * (p5 + p6 + p7) + 281474976710656 * (p6 + p7) + 72057594037927936 * p7 := by
    rw [a4, f4] at e5
    clear e4 e6 a3 b3 b es a4 b4 f4
    omega
  obtain ⟨a5, b5⟩ := dg5 b f5
  have e6 := e6 (by omega)
  refine dg6 b (X := (p1 + p2 + p3 + p4 + p5 + p6 + p7) + 256 * (p2 + p3 + p4 + p5 + p6 + p7) + 65536 * (p3 + p4 + p5 + p6 + p7) + 16777216 * (p4 + p5 + p6 + p7) + 4294967296 * (p5 + p6 + p7) + 1099511627776 * (p6 + p7) + 281474976710656 * p7) ?_
  rw [a5, f5] at e6
  clear e4 e5 a3 b3 b es a4 b4 f4 f5 a5 b5
  omega
theorem cg_bits {dA : Nat → ClassId} {h : hm_T} {z : hz_T} {y : Int64} {K : Int32 → hm_T → hz_T → Prop} (hK : K (nI (pcB 64 (nvl y))) h z) : w_Long_bitCount dA y K h z := by
  have hy : nvl y < 256 ^ 8 := nvl_lt y
  obtain ⟨m5, m3, mf, mb⟩ := msk_vals
  unfold w_Long_bitCount
  refine cg_lt_of (fun v1 e1 => cg_lt_of (fun v2 e2 => cg_lt_of (fun v3 e3 => cg_lt_of (fun v4 e4 => cg_lt_of (fun v5 e5 => cg_lt_of (fun v6 e6 => ?_))))))
  have s1 : ((1 : Int32).toInt64.toUInt64 &&& Int64.toUInt64 63).toNat % 64 = 1 := by decide
  have s2 : ((2 : Int32).toInt64.toUInt64 &&& Int64.toUInt64 63).toNat % 64 = 2 := by decide
  have s4 : ((4 : Int32).toInt64.toUInt64 &&& Int64.toUInt64 63).toNat % 64 = 4 := by decide
  have s8 : ((8 : Int32).toInt64.toUInt64 &&& Int64.toUInt64 63).toNat % 64 = 8 := by decide
  have s16 : ((16 : Int32).toInt64.toUInt64 &&& Int64.toUInt64 63).toNat % 64 = 16 := by decide
  have s32 : ((32 : Int32).toInt64.toUInt64 &&& Int64.toUInt64 63).toNat % 64 = 32 := by decide
  have n1 : nvl v1 = pg1 8 (nvl y) := by
    rw [e1, nvl_sub, nvl_and, nvl_shr s1, m5]
    · rfl
    · rw [nvl_and, nvl_shr s1]
      exact Nat.le_trans Nat.and_le_left (Nat.div_le_self _ _)
  have bd : (nvl v1 &&& msk 51 8) + (nvl v1 / 2 ^ 2 &&& msk 51 8) < 2 ^ 63 := by
    have a1 := @Nat.and_le_right (nvl v1) (msk 51 8)
    have a2 := @Nat.and_le_right (nvl v1 / 2 ^ 2) (msk 51 8)
    generalize nvl v1 &&& msk 51 8 = x1 at *
    generalize nvl v1 / 2 ^ 2 &&& msk 51 8 = x2 at *
    generalize msk 51 8 = x3 at *
    clear hK hy e1 e2 e3 e4 e5 e6 s1 s2 s4 s8 s16 s32 n1 m5 mf m3
    omega
  have n2 : nvl v2 = (nvl v1 &&& msk 51 8) + (nvl v1 / 2 ^ 2 &&& msk 51 8) := by
    rw [e2, nvl_add, nvl_and, nvl_and, nvl_shr s2, m3]
    rw [nvl_and, nvl_and, nvl_shr s2, m3]
    exact Nat.lt_trans bd (by decide)
  have b2 : nvl v2 < 2 ^ 63 := by rw [n2]; exact bd
  have n3 : nvl v3 = pg3 8 (nvl v2) := by
    rw [e3, nvl_and, nvl_as s4 b2, mf]
    rfl
  have n3' : nvl v3 = sumB 8 (nvl y) := by
    rw [n3, show nvl v2 = pg2 8 (nvl v1) from n2, n1]
    exact (pg_all 8 _ hy).2
  obtain ⟨p0, p1, p2, p3, p4, p5, p6, p7, bb, es, ep⟩ := sumB8 n3'
  have q6 : nvl v6 % 256 = p0 + p1 + p2 + p3 + p4 + p5 + p6 + p7 := dg_all (s4 := nvl v4) (s5 := nvl v5) (s6 := nvl v6) bb es (fun q => by rw [e4]; exact nvl_as s8 q) (fun q => by rw [e5]; exact nvl_as s16 q) (fun q => by rw [e6]; exact nvl_as s32 q)
  rw [nvl_int (p := pcB 64 (nvl y)) (by rw [ep]; clear hK hy e1 e2 e3 e4 e5 e6 n1 n2 n3 n3' es q6 bd b2 s1 s2 s4 s8 s16 s32 m5 m3 mf mb ep; omega) (by rw [q6, ep])]
  exact hK
-- sets of places in the class: bits, lists in a direction, positions
theorem bR.at {m : Int64} {S : Nat → Bool} (h : bR m S) {y : Nat} (hy : y < 64) : bt m y = S y := h y hy
theorem bR.mk {m : Int64} {S : Nat → Bool} (h : ∀ y, y < 64 → bt m y = S y) : bR m S := h
theorem b_and {a c : Int64} {y : Nat} : bt (a &&& c) y = (bt a y && bt c y) := by
  unfold bt
  rw [Int64.toBitVec_and, BitVec.getLsbD_and]
theorem b_not {a : Int64} {y : Nat} (hy : y < 64) : bt (a ^^^ (-1 : Int64)) y = !bt a y := by
  unfold bt
  rw [Int64.toBitVec_xor, BitVec.getLsbD_xor]
  have e : (-1 : Int64).toBitVec.getLsbD y = true := by
    show (BitVec.allOnes 64).getLsbD y = true
    rw [BitVec.getLsbD_allOnes, decide_eq_true hy]
  rw [e, Bool.xor_true]
theorem b_bit {m : Int64} {x y : Nat} (hx : x < 64) (hy : y < 64) : bt (m &&& ((1 : Int64) <<< ((nI x).toInt64 &&& 63))) y = (bt m x && decide (y = x)) := by
  rw [b_and, b_one hx hy]
  by_cases q : y = x
  · rw [q]
  · rw [decide_eq_false q, Bool.and_false, Bool.and_false]
theorem b_bit0 {m : Int64} {x : Nat} (hx : x < 64) : mm_cmp (m &&& ((1 : Int64) <<< ((nI x).toInt64 &&& 63))) 0 = 0 ↔ bt m x = false := by
  rw [b_cmp0]
  constructor
  · intro w
    have := w x hx
    rw [b_bit hx hx, decide_eq_true rfl, Bool.and_true] at this
    exact this
  · intro w y hy
    rw [b_bit hx hy, w, Bool.false_and]
def rgL (f t : Nat) : Int64 := ((1 : Int64) <<< ((nI t).toInt64 &&& 63)) - ((1 : Int64) <<< ((nI f).toInt64 &&& 63))
theorem b_rg0 : ∀ t, t < 41 → ∀ y, y < 64 → bt (((1 : Int64) <<< (Int64.ofNat t)) - 1) y = decide (y < t) := by decide +kernel
theorem b_rg1 : ∀ t, t < 41 → ∀ f, f < 41 → f ≤ t → ((1 : Int64) <<< (Int64.ofNat t)) - ((1 : Int64) <<< (Int64.ofNat f)) = (((1 : Int64) <<< (Int64.ofNat t)) - 1) ^^^ (((1 : Int64) <<< (Int64.ofNat f)) - 1) := by decide +kernel
theorem b_rng {f t y : Nat} (hf : f ≤ t) (ht : t ≤ 40) (hy : y < 64) : bt (rgL f t) y = decide (f ≤ y ∧ y < t) := by
  unfold rgL
  rw [b_sh (by omega), b_sh (by omega), b_rg1 t (by omega) f (by omega) hf]
  have e : ∀ a c : Int64, bt (a ^^^ c) y = (bt a y ^^ bt c y) := fun a c => by
    unfold bt
    rw [Int64.toBitVec_xor, BitVec.getLsbD_xor]
  rw [e, b_rg0 t (by omega) y hy, b_rg0 f (by omega) y hy]
  by_cases q1 : y < f
  · rw [decide_eq_true q1, decide_eq_true (show y < t by omega), decide_eq_false (by omega)]
    rfl
  · rw [decide_eq_false q1, Bool.xor_false]
    by_cases q2 : y < t
    · rw [decide_eq_true q2, decide_eq_true (by omega)]
    · rw [decide_eq_false q2, decide_eq_false (by omega)]
/-- the long that a loop over the places makes -/
def bO (S : Nat → Bool) : Nat → Int64
  | 0 => 0
  | k + 1 => bO S k ||| (if S k = true then (1 : Int64) <<< ((nI k).toInt64 &&& 63) else 0)
theorem b_O {S : Nat → Bool} {y : Nat} (hy : y < 64) : ∀ k, k ≤ 64 → bt (bO S k) y = (decide (y < k) && S y) := by
  intro k
  induction k with
  | zero => intro _; rw [decide_eq_false (by omega), Bool.false_and]; exact b_zero
  | succ k ih =>
    intro hk
    show bt (bO S k ||| _) y = _
    rw [b_or, ih (by omega)]
    by_cases q : y = k
    · subst q
      rw [decide_eq_false (Nat.lt_irrefl _), Bool.false_and, Bool.false_or, decide_eq_true (Nat.lt_succ_self _), Bool.true_and]
      cases e : S y with
      | true => rw [if_pos rfl, b_one (by omega) hy, decide_eq_true rfl]
      | false => rw [if_neg (by decide)]; exact b_zero
    · have e2 : bt (if S k = true then (1 : Int64) <<< ((nI k).toInt64 &&& 63) else 0) y = false := by
        cases e : S k with
        | true => rw [if_pos rfl, b_one (by omega) hy, decide_eq_false q]
        | false => rw [if_neg (by decide)]; exact b_zero
      rw [e2, Bool.or_false]
      by_cases q2 : y < k
      · rw [decide_eq_true q2, decide_eq_true (show y < k + 1 by omega)]
      · rw [decide_eq_false q2, decide_eq_false (show ¬ y < k + 1 by omega)]
theorem bO_eq {S : Nat → Bool} {n : Nat} {m : Int64} (hn : n ≤ 40) (h : ∀ y, y < 64 → bt m y = (decide (y < n) && S y)) : m = bO S n := b_ext (fun y hy => by rw [h y hy, b_O hy n (by omega)])
theorem bO_cg {S S2 : Nat → Bool} : ∀ n : Nat, (∀ y, y < n → S y = S2 y) → bO S n = bO S2 n := by
  intro n
  induction n with
  | zero => intro _; rfl
  | succ n ih =>
    intro h
    show bO S n ||| _ = bO S2 n ||| _
    rw [ih (fun y hy => h y (by omega)), h n (by omega)]
-- lists in a direction
def srt (bk : Bool) (l : List Nat) : Prop := l.Pairwise (fun a b => if bk = true then b < a else a < b)
def dirL (n : Nat) (bk : Bool) : List Nat := if bk = true then (List.range n).reverse else List.range n
theorem srt_as {bk : Bool} {a b : Nat} (h1 : if bk = true then b < a else a < b) (h2 : if bk = true then a < b else b < a) : False := by
  cases bk with
  | true => simp at h1 h2; omega
  | false => simp at h1 h2; omega
theorem srt_ne {bk : Bool} {a b : Nat} (h1 : if bk = true then b < a else a < b) : a ≠ b := fun e => by subst e; exact srt_as h1 h1
theorem srt_ext {bk : Bool} : ∀ l1 l2 : List Nat, srt bk l1 → srt bk l2 → (∀ y, y ∈ l1 ↔ y ∈ l2) → l1 = l2 := by
  intro l1
  induction l1 with
  | nil =>
    intro l2 _ _ h
    cases l2 with
    | nil => rfl
    | cons x l2 => exact absurd ((h x).mpr List.mem_cons_self) (by simp)
  | cons x1 l1 ih =>
    intro l2 s1 s2 h
    cases l2 with
    | nil => exact absurd ((h x1).mp List.mem_cons_self) (by simp)
    | cons x2 l2 =>
      have p1 := List.pairwise_cons.mp s1
      have p2 := List.pairwise_cons.mp s2
      have e : x1 = x2 := by
        rcases List.mem_cons.mp ((h x1).mp List.mem_cons_self) with w1 | w1
        · exact w1
        · rcases List.mem_cons.mp ((h x2).mpr List.mem_cons_self) with w2 | w2
          · exact w2.symm
          · exact (srt_as (p1.1 x2 w2) (p2.1 x1 w1)).elim
      subst e
      congr 1
      refine ih l2 p1.2 p2.2 (fun y => ⟨fun w => ?_, fun w => ?_⟩)
      · rcases List.mem_cons.mp ((h y).mp (List.mem_cons_of_mem _ w)) with q | q
        · exact absurd q.symm (srt_ne (p1.1 y w))
        · exact q
      · rcases List.mem_cons.mp ((h y).mpr (List.mem_cons_of_mem _ w)) with q | q
        · exact absurd q.symm (srt_ne (p2.1 y w))
        · exact q
theorem srt_dir {n : Nat} {bk : Bool} : srt bk (dirL n bk) := by
  cases bk with
  | true =>
    show List.Pairwise _ (List.range n).reverse
    rw [List.pairwise_reverse]
    exact List.pairwise_lt_range.imp (fun h => by simpa using h)
  | false =>
    show List.Pairwise _ (List.range n)
    exact List.pairwise_lt_range.imp (fun h => by simpa using h)
theorem dir_mem {n y : Nat} {bk : Bool} : y ∈ dirL n bk ↔ y < n := by
  cases bk with
  | true => show y ∈ (List.range n).reverse ↔ _; rw [List.mem_reverse, List.mem_range]
  | false => exact List.mem_range
theorem srt.filter {bk : Bool} {l : List Nat} (s : srt bk l) (S : Nat → Bool) : srt bk (l.filter S) := List.Pairwise.sublist List.filter_sublist s
theorem srt_can {n : Nat} {bk : Bool} {l : List Nat} (s : srt bk l) (hl : ∀ y ∈ l, y < n) : (dirL n bk).filter (fun y => decide (y ∈ l)) = l := by
  refine srt_ext _ _ (srt_dir.filter _) s (fun y => ?_)
  rw [List.mem_filter, dir_mem, decide_eq_true_iff]
  exact ⟨fun h => h.2, fun h => ⟨hl y h, h⟩⟩
theorem srt.nodup {bk : Bool} {l : List Nat} (s : srt bk l) : l.Nodup := List.Pairwise.imp (fun h => srt_ne h) s
def posB (S : Nat → Bool) (p : Nat) : List Nat → Nat → Nat → Bool
  | [], _, _ => false
  | x :: L, c, y => if S x = true then (if c + 1 = p then decide (y = x) else posB S p L (c + 1) y) else posB S p L c y
theorem flt_past {neg : Bool} {p of : Nat} : ∀ (l : List Nat) (k y : Nat), p < k → (y ∈ q_flt (fun _ k _ => neg != decide (k = p)) of k l ↔ y ∈ l ∧ neg = true) := by
  intro l
  induction l with
  | nil => intro k y _; simp [q_flt]
  | cons x l ih =>
    intro k y hk
    have i1 := ih (k + 1) y (by omega)
    unfold q_flt
    rw [decide_eq_false (show ¬ k = p by omega)]
    cases neg with
    | true => rw [if_pos (by decide), List.mem_cons, List.mem_cons, i1]; simp
    | false => rw [if_neg (by decide), i1]; simp
theorem posB_no {S : Nat → Bool} {p : Nat} : ∀ (L : List Nat) (c y : Nat), y ∉ L → posB S p L c y = false := by
  intro L
  induction L with
  | nil => intro c y _; rfl
  | cons x L ih =>
    intro c y hy
    have h1 : y ≠ x := fun w => hy (by rw [w]; exact List.mem_cons_self)
    have h2 : y ∉ L := fun w => hy (List.mem_cons_of_mem _ w)
    unfold posB
    rw [ih _ y h2, ih _ y h2, decide_eq_false h1]
    cases S x with
    | true => rw [if_pos rfl]; split <;> rfl
    | false => rw [if_neg (by decide)]
theorem flt_pos {S : Nat → Bool} {neg : Bool} {p of : Nat} : ∀ (L : List Nat) (c y : Nat), L.Nodup → (y ∈ q_flt (fun _ k _ => neg != decide (k = p)) of (c + 1) (L.filter S) ↔ y ∈ L ∧ S y = true ∧ (neg != posB S p L c y) = true) := by
  intro L
  induction L with
  | nil => intro c y _; simp [q_flt]
  | cons x L ih =>
    intro c y nd
    obtain ⟨nx, nd⟩ := List.nodup_cons.mp nd
    rw [List.filter_cons]
    unfold posB
    cases e : S x with
    | false =>
      rw [if_neg (by decide), if_neg (by decide), ih c y nd, List.mem_cons]
      constructor
      · exact fun h => ⟨Or.inr h.1, h.2⟩
      · rintro ⟨h1 | h1, h2, h3⟩
        · rw [h1, e] at h2; cases h2
        · exact ⟨h1, h2, h3⟩
    | true =>
      rw [if_pos rfl, if_pos rfl]
      unfold q_flt
      by_cases q : c + 1 = p
      · rw [if_pos q, decide_eq_true q]
        have past := flt_past (neg := neg) (p := p) (of := of) (L.filter S) (c + 1 + 1) y (by omega)
        by_cases qy : y = x
        · subst qy
          rw [decide_eq_true rfl]
          cases neg with
          | true =>
            rw [if_neg (by decide), past, List.mem_filter]
            exact ⟨fun h => absurd h.1.1 nx, fun h => by simp at h⟩
          | false =>
            rw [if_pos (by decide)]
            exact ⟨fun _ => ⟨List.mem_cons_self, e, rfl⟩, fun _ => List.mem_cons_self⟩
        · rw [decide_eq_false qy, Bool.bne_false]
          have past2 : y ∈ q_flt (fun _ k _ => neg != decide (k = p)) of (c + 1 + 1) (L.filter S) ↔ y ∈ x :: L ∧ S y = true ∧ neg = true := by
            rw [past, List.mem_filter, List.mem_cons]
            exact ⟨fun h => ⟨Or.inr h.1.1, h.1.2, h.2⟩, fun h => ⟨⟨h.1.resolve_left qy, h.2.1⟩, h.2.2⟩⟩
          cases en : (neg != true) with
          | true => rw [if_pos rfl, List.mem_cons]; exact ⟨fun h => past2.mp (h.resolve_left qy), fun h => Or.inr (past2.mpr h)⟩
          | false => rw [if_neg (by decide)]; exact past2
      · rw [if_neg q, decide_eq_false q, Bool.bne_false]
        have i1 := ih (c + 1) y nd
        by_cases qy : y = x
        · subst qy
          rw [posB_no L (c + 1) y nx, Bool.bne_false]
          cases neg with
          | true => rw [if_pos rfl]; exact ⟨fun _ => ⟨List.mem_cons_self, e, rfl⟩, fun _ => List.mem_cons_self⟩
          | false =>
            rw [if_neg (by decide), i1]
            exact ⟨fun h => absurd h.1 nx, fun h => by cases h.2.2⟩
        · have i2 : y ∈ q_flt (fun _ k _ => neg != decide (k = p)) of (c + 1 + 1) (L.filter S) ↔ y ∈ x :: L ∧ S y = true ∧ (neg != posB S p L (c + 1) y) = true := by
            rw [i1, List.mem_cons]
            exact ⟨fun h => ⟨Or.inr h.1, h.2⟩, fun h => ⟨h.1.resolve_left qy, h.2⟩⟩
          cases en : neg with
          | true => rw [if_pos rfl, List.mem_cons]; rw [en] at i2; exact ⟨fun h => i2.mp (h.resolve_left qy), fun h => Or.inr (i2.mpr h)⟩
          | false => rw [if_neg (by decide)]; rw [en] at i2; exact i2
theorem flt_all {g : Nat → Bool} {of : Nat} : ∀ (l : List Nat) (k : Nat), q_flt (fun x _ _ => g x) of k l = l.filter g := by
  intro l
  induction l with
  | nil => intro k; rfl
  | cons x l ih =>
    intro k
    unfold q_flt
    rw [ih, List.filter_cons]
theorem flt_sub {h : Nat → Nat → Nat → Bool} {of : Nat} : ∀ (l : List Nat) (k : Nat), (q_flt h of k l).Sublist l := by
  intro l
  induction l with
  | nil => intro k; exact List.Sublist.refl _
  | cons x l ih =>
    intro k
    unfold q_flt
    by_cases e : h x k of = true
    · rw [if_pos e]; exact (ih (k + 1)).cons_cons x
    · rw [if_neg e]; exact (ih (k + 1)).cons x
theorem srt.flt {bk : Bool} {l : List Nat} {h : Nat → Nat → Nat → Bool} {of k : Nat} (s : srt bk l) : srt bk (q_flt h of k l) := List.Pairwise.sublist (flt_sub l k) s
/-- how many places there are -/
theorem srt_len {n : Nat} {bk : Bool} {l : List Nat} {m : Int64} (hn : n ≤ 40) (s : srt bk l) (hl : ∀ y ∈ l, y < n) (hm : bR m (fun y => decide (y ∈ l))) : pcB 64 (nvl m) = l.length := by
  have e1 : l.length = ((List.range n).filter (fun y => decide (y ∈ l))).length := by
    conv => lhs; rw [← srt_can s hl]
    cases bk with
    | true => show ((List.range n).reverse.filter _).length = _; rw [List.filter_reverse, List.length_reverse]
    | false => rfl
  have e2 : pcB 64 (nvl m) = ((List.range 64).filter (fun y => decide (y ∈ l))).length := by
    unfold pcB
    congr 1
    exact List.filter_congr (fun i hi => hm.at (List.mem_range.mp hi))
  rw [e1, e2, show (64 : Nat) = n + (64 - n) by omega, List.range_add, List.filter_append, List.length_append]
  have e3 : (List.map (fun x => n + x) (List.range (64 - n))).filter (fun y => decide (y ∈ l)) = [] := by
    rw [List.filter_eq_nil_iff]
    intro y hy w
    obtain ⟨i, _, rfl⟩ := List.mem_map.mp hy
    have := hl _ (of_decide_eq_true w)
    omega
  rw [e3]
  rfl
def dpl (n : Nat) (bk : Bool) (k : Nat) : Nat := if bk = true then n - 1 - k else k
theorem dir_drop {n k : Nat} {bk : Bool} (hk : k < n) : (dirL n bk).drop k = dpl n bk k :: (dirL n bk).drop (k + 1) := by
  cases bk with
  | true =>
    show (List.range n).reverse.drop k = (n - 1 - k) :: (List.range n).reverse.drop (k + 1)
    rw [List.drop_eq_getElem_cons (by simp; exact hk)]
    congr 1
    simp
  | false =>
    show (List.range n).drop k = k :: (List.range n).drop (k + 1)
    rw [List.drop_eq_getElem_cons (by simp; exact hk)]
    congr 1
    simp
-- the class's walker: what it holds, and the axes
section QV3
variable {dA : Nat → ClassId} {h h1 : hm_T} {z z1 : hz_T} {w a n : Nat} {B : Nat → Nat} {D : Nat → nd}
/-- the walker w over the tree a of n nodes -/
def wk (dA : Nat → ClassId) (h : hm_T) (z : hz_T) (w a n : Nat) (B : Nat → Nat) (D : Nat → nd) : Prop := ∃ (aM aO aE mk m : Nat) (N E : Nat → Nat) (J : Nat → Int32 × Option Nat × Int32 × Nat × Nat × Int32) (V : Nat → Int32 × Nat × Nat) (Q : Nat → Prop), h w = some (.inr (14, [.ref a])) ∧ cp_T dA h a aM aO aE mk n m N B E J V ∧ cp_P mk n N B J V ∧ cp_doc dA h z Q B J (fun x => (V x).2.1) n D ∧ nd_ok mk n D ∧ nd_pre n D ∧ nd_at n D
theorem wk.ok (G : wk dA h z w a n B D) : ∃ mk, nd_ok mk n D := by
  obtain ⟨aM, aO, aE, mk, m, N, E, J, V, Q, W, T, P, d, ok, pre, at0⟩ := G
  exact ⟨mk, ok⟩
theorem wk.pre (G : wk dA h z w a n B D) : nd_pre n D := by
  obtain ⟨aM, aO, aE, mk, m, N, E, J, V, Q, W, T, P, d, ok, pre, at0⟩ := G
  exact pre
theorem wk.at0 (G : wk dA h z w a n B D) : nd_at n D := by
  obtain ⟨aM, aO, aE, mk, m, N, E, J, V, Q, W, T, P, d, ok, pre, at0⟩ := G
  exact at0
theorem wk.W (G : wk dA h z w a n B D) : h w = some (.inr (14, [.ref a])) := by
  obtain ⟨aM, aO, aE, mk, m, N, E, J, V, Q, W, T, P, d, ok, pre, at0⟩ := G
  exact W
theorem wk.hn (G : wk dA h z w a n B D) : n ≤ 40 := by
  obtain ⟨aM, aO, aE, mk, m, N, E, J, V, Q, W, T, P, d, ok, pre, at0⟩ := G
  exact ok.1
/-- the tree's size -/
theorem wk.size (G : wk dA h z w a n B D) {K : Int32 → Prop} (hK : K (nI n)) : cg_R h 14 0 w (fun v => cg_d v (fun a2 => cg_I h 1 3 a2 K)) := by
  obtain ⟨aM, aO, aE, mk, m, N, E, J, V, Q, W, T, P, d, ok, pre, at0⟩ := G
  exact cg_R_ref W rfl (cg_d_of (cg_I_of T.1 rfl hK))
/-- the node in a place -/
theorem wk.node (G : wk dA h z w a n B D) {k : Nat} (hk : k < n) {K : Option Nat → Prop} (hK : K (some (B k))) : cg_R h 14 0 w (fun v => cg_d v (fun a2 => cg_R h 1 2 a2 (fun v2 => cg_d v2 (fun a3 => cg_ar dA h 5 a3 (nI k) K)))) := by
  obtain ⟨aM, aO, aE, mk, m, N, E, J, V, Q, W, T, P, d, ok, pre, at0⟩ := G
  have hb := T.2.2.2.2.2.2.2.2.2.2
  obtain ⟨f, hO, hf⟩ := T.2.2.1
  exact cg_R_ref W rfl (cg_d_of (cg_R_ref T.1 rfl (cg_d_of (cg_ar_of hO (by omega) (by omega) (hf k hk) hK))))
/-- a node's fields: kind, parent, place, text -/
theorem wk.cell (G : wk dA h z w a n B D) {k : Nat} (hk : k < n) : ∃ (fs : List Value) (tt u : Nat), h (B k) = some (.inr (8, fs)) ∧ fs[0]? = some (.int (nI (D k).2.1)) ∧ fs[1]? = some (va_rf ((D k).2.2.1.map B)) ∧ fs[6]? = some (.int (nI k)) ∧ fs[7]? = some (.ref tt) ∧ z tt = some (u, (D k).2.2.2.2.2) := by
  obtain ⟨aM, aO, aE, mk, m, N, E, J, V, Q, W, T, P, d, ok, pre, at0⟩ := G
  obtain ⟨d1, d2, d3, d4, d5, d6, d7, u, d8⟩ := d k hk
  refine ⟨_, _, u, cp_nB T hk, ?_, ?_, ?_, rfl, d8⟩
  · show some (Value.int (J (B k)).1) = _; rw [d1]
  · show some (va_rf (J (B k)).2.1) = _; rw [d2]
  · show some (Value.int (V (B k)).1) = _; rw [P.2.1 k hk]
/-- where a node's inside ends -/
theorem wk.endOf (G : wk dA h z w a n B D) {k : Nat} (hk : k < n) {K : Int32 → hm_T → hz_T → Prop} (hK : K (nI (a_end n D k)) h z) : cg_R h 14 0 w (fun v => cg_d v (fun a2 => cg_c h 1 a2 (w_Tree_endOf dA a2 (some (B k)) K h z))) := by
  obtain ⟨aM, aO, aE, mk, m, N, E, J, V, Q, W, T, P, d, ok, pre, at0⟩ := G
  exact cg_R_ref W rfl (cg_d_of (cg_c_of T.1 (cp_endOf (pa := fun k => (D k).2.2.1) T P (fun j hj => ⟨(d j hj).2.2.1, by
    have := mp_dp_le (pa := fun k => (D k).2.2.1) (fun k hk p e => (ok.2 k hk).2.2.1 p e) (j + 1) j hj
    have hn := ok.1
    unfold mp_dep
    omega⟩) hk hK)))
theorem wk.inj (G : wk dA h z w a n B D) {i j : Nat} (hi : i < n) (hj : j < n) (e : B i = B j) : i = j := by
  obtain ⟨aM, aO, aE, mk, m, N, E, J, V, Q, W, T, P, d, ok, pre, at0⟩ := G
  have hn := ok.1
  have e1 := P.2.1 i hi
  rw [e, P.2.1 j hj] at e1
  exact ((nI_eq (by omega) (by omega)).mp e1).symm
theorem wk.paB (G : wk dA h z w a n B D) {k : Nat} (hk : k < n) {p : Option Nat} (hp : ∀ q, p = some q → q < n) : (D k).2.2.1.map B = p.map B ↔ (D k).2.2.1 = p := by
  obtain ⟨mk, ok⟩ := G.ok
  constructor
  · intro e
    cases e1 : (D k).2.2.1 with
    | none =>
      rw [e1] at e
      cases p with
      | none => rfl
      | some q => cases e
    | some i =>
      rw [e1] at e
      cases p with
      | none => cases e
      | some q =>
        have hi := (ok.2 k hk).2.2.1 i e1
        rw [G.inj (i := i) (j := q) (by omega) (hp q rfl) (Option.some.inj e)]
  · intro e; rw [e]
theorem wk_chL (G : wk dA h z w a n B D) {p : Nat} (hp : p < n) {K : Int64 → hm_T → hz_T → Prop} (hK : K (bO (fun k => decide ((D k).2.2.1 = some p)) n) h z) : ∀ (r fu k : Nat), k + r = n → r < fu → w_Walker_children_5 dA w K fu (some (B p)) (bO (fun k => decide ((D k).2.2.1 = some p)) k) (nI k) h z := by
  have hn := G.hn
  intro r
  induction r with
  | zero =>
    intro fu k hk hr
    obtain ⟨fu, rfl⟩ : ∃ f, fu = f + 1 := ⟨fu - 1, by omega⟩
    obtain rfl : k = n := by omega
    unfold w_Walker_children_5
    exact if_no (by simp) (G.size (if_yes (nI_le (Nat.le_refl _) (by omega)) hK))
  | succ r ih =>
    intro fu k hk hr
    obtain ⟨fu, rfl⟩ : ∃ f, fu = f + 1 := ⟨fu - 1, by omega⟩
    have i1 := ih fu (k + 1) (by omega) (by omega)
    obtain ⟨fs, tt, u, c1, c2, c3, c4, c5, c6⟩ := G.cell (k := k) (by omega)
    have e := G.paB (k := k) (by omega) (p := some p) (fun q hq => by cases hq; exact hp)
    unfold w_Walker_children_5
    refine if_no (by simp) (G.size (if_no (nI_ge (by omega) (by omega)) (G.node (by omega) (cg_d_of (cg_R_of c1 c3 ?_)))))
    unfold w_Walker_children_47
    rw [nI_1]
    show if (D k).2.2.1.map B = Option.map B (some p) then _ else _
    by_cases q : (D k).2.2.1 = some p
    · refine if_yes (e.mpr q) ?_
      have e2 : bO (fun k => decide ((D k).2.2.1 = some p)) (k + 1) = bO (fun k => decide ((D k).2.2.1 = some p)) k ||| ((1 : Int64) <<< ((nI k).toInt64 &&& 63)) := by
        show _ ||| _ = _
        rw [if_pos (decide_eq_true q)]
      rw [← e2]
      exact i1
    · refine if_no (fun x => q (e.mp x)) ?_
      have e2 : bO (fun k => decide ((D k).2.2.1 = some p)) (k + 1) = bO (fun k => decide ((D k).2.2.1 = some p)) k ||| 0 := by
        show _ ||| _ = _
        rw [if_neg (by simpa using q)]
      rw [← e2]
      exact i1
theorem wk_children (G : wk dA h z w a n B D) {p : Option Nat} (hp : ∀ q, p = some q → q < n) {K : Int64 → hm_T → hz_T → Prop} (hK : ∀ v, bR v (fun y => decide (y < n ∧ p ≠ none ∧ (D y).2.2.1 = p)) → K v h z) : w_Walker_children dA w (p.map B) K h z := by
  have hn := G.hn
  unfold w_Walker_children
  cases p with
  | none =>
    unfold mF w_Walker_children_5
    refine if_yes rfl (hK 0 (bR.mk (fun y hy => ?_)))
    rw [b_zero, decide_eq_false (fun e => e.2.1 rfl)]
  | some p =>
    refine wk_chL G (hp p rfl) (hK _ (bR.mk (fun y hy => ?_))) n mF 0 (by omega) (by unfold mF; omega)
    rw [b_O hy n (by omega)]
    by_cases q : y < n
    · rw [decide_eq_true q, Bool.true_and]
      exact decide_eq_decide.mpr ⟨fun e => ⟨q, by simp, e⟩, fun e => e.2.2⟩
    · rw [decide_eq_false q, Bool.false_and, decide_eq_false (fun e => q e.1)]
theorem wk_ancL (G : wk dA h z w a n B D) {K : Int64 → hm_T → hz_T → Prop} : ∀ (f x fu : Nat) (acc : Int64) (S : Nat → Bool), x < n → x < f → f < fu → bR acc S → (∀ v, bR v (fun y => S y || decide (y ∈ q_anc D f x)) → K v h z) → w_Walker_ancestors_8 dA w K fu acc ((D x).2.2.1.map B) h z := by
  obtain ⟨mk, ok⟩ := G.ok
  have hn := G.hn
  intro f
  induction f with
  | zero => intro x fu acc S _ h2; omega
  | succ f ih =>
    intro x fu acc S hx hf hfu hS hK
    obtain ⟨fu, rfl⟩ : ∃ f, fu = f + 1 := ⟨fu - 1, by omega⟩
    unfold w_Walker_ancestors_8
    unfold q_anc at hK
    cases e : (D x).2.2.1 with
    | none =>
      rw [e] at hK
      refine if_yes rfl (hK acc (bR.mk (fun y hy => ?_)))
      rw [(hS.at hy)]
      simp
    | some p =>
      rw [e] at hK
      have hp := (ok.2 x hx).2.2.1 p e
      obtain ⟨fs, tt, u, c1, c2, c3, c4, c5, c6⟩ := G.cell (k := p) (by omega)
      refine if_no (by simp) (cg_d_of (cg_I_of c1 c4 (cg_d_of (cg_R_of c1 c3 ?_))))
      refine ih p fu _ (fun y => S y || decide (y = p)) (by omega) (by omega) (by omega) (fun y hy => ?_) (fun v hv => hK v (bR.mk (fun y hy => ?_)))
      · rw [b_or, (hS.at hy), b_one (by omega) hy]
      · rw [(hv.at hy)]
        simp only [List.mem_cons, Bool.or_assoc]
        congr 1
        rw [Bool.decide_or]
theorem wk_anc (G : wk dA h z w a n B D) {x : Nat} (hx : x < n) {K : Int64 → hm_T → hz_T → Prop} (hK : ∀ v, bR v (fun y => decide (y ∈ q_anc D 50 x)) → K v h z) : w_Walker_ancestors dA w (some (B x)) K h z := by
  have hn := G.hn
  obtain ⟨fs, tt, u, c1, c2, c3, c4, c5, c6⟩ := G.cell hx
  unfold w_Walker_ancestors
  refine cg_d_of (cg_R_of c1 c3 (wk_ancL G 50 x mF 0 (fun _ => false) hx (by omega) (by unfold mF; omega) (fun y hy => b_zero) (fun v hv => hK v (bR.mk (fun y hy => by rw [(hv.at hy), Bool.false_or])))))
/-- who isn't above x ends ahead of it -/
theorem q_anc_end {mk : Nat} (ok : nd_ok mk n D) (pre : nd_pre n D) {k : Nat} : ∀ (f x : Nat), x < f → x < n → k < x → (k ∈ q_anc D f x ↔ x < a_end n D k) := by
  have up : ∀ j, j < n → ∀ p, (fun k => (D k).2.2.1) j = some p → p < j := fun j hj p hp => (ok.2 j hj).2.2.1 p hp
  intro f
  induction f with
  | zero => intro x h; omega
  | succ f ih =>
    intro x hf hx hk
    have es := mp_end_spec (pa := fun k => (D k).2.2.1) (show k < n by omega)
    unfold q_anc
    cases e : (D x).2.2.1 with
    | none => have := (ok.2 x hx).2.2.2.2.2.2.2.2 e; omega
    | some p =>
      have hp := (ok.2 x hx).2.2.1 p e
      have dx : mp_dep (fun k => (D k).2.2.1) x = mp_dep (fun k => (D k).2.2.1) p + 1 := mp_dep_some up hx e
      have pr := (pre x hx p e).2
      simp only [List.mem_cons]
      rcases Nat.lt_trichotomy p k with q | q | q
      · have d1 := pr k q hk
        constructor
        · rintro (w | w)
          · omega
          · have := (q_anc_len ok f p (by omega)).2 k w; omega
        · intro w
          have := es.2.2.1 x hk w
          omega
      · subst q
        refine ⟨fun _ => ?_, fun _ => Or.inl rfl⟩
        rcases Nat.lt_or_ge x (a_end n D p) with w | w
        · exact w
        · exfalso
          have h3 := es.2.2.2 (show mp_end (fun k => (D k).2.2.1) n p < n by unfold a_end at w; omega)
          unfold a_end at w
          rcases Nat.lt_or_ge (mp_end (fun k => (D k).2.2.1) n p) x with w2 | w2
          · have := pr _ es.1 w2; omega
          · have e3 : mp_end (fun k => (D k).2.2.1) n p = x := by omega
            rw [e3] at h3; omega
      · have i1 := ih p (by omega) (by omega) q
        constructor
        · rintro (w | w)
          · omega
          · have w2 := i1.mp w
            rcases Nat.lt_or_ge x (a_end n D k) with w3 | w3
            · exact w3
            · exfalso
              have h3 := es.2.2.2 (show mp_end (fun k => (D k).2.2.1) n k < n by unfold a_end at w3; omega)
              have h4 := es.2.2.1 p q w2
              unfold a_end at w3 w2
              rcases Nat.lt_or_ge (mp_end (fun k => (D k).2.2.1) n k) x with w4 | w4
              · have := pr _ w2 w4; omega
              · have e3 : mp_end (fun k => (D k).2.2.1) n k = x := by omega
                rw [e3] at h3; omega
        · intro w
          exact Or.inr (i1.mpr (by omega))
end QV3
-- the class's walker: each axis gives the places of the list
section QV4
variable {dA : Nat → ClassId} {h h1 : hm_T} {z z1 : hz_T} {w a n : Nat} {B : Nat → Nat} {D : Nat → nd}
theorem q_axc_in : ∀ i, i < 11 → ((nI (q_axc i) = 65 ↔ i = 4) ∧ (nI (q_axc i) = 66 ↔ i = 5) ∧ (nI (q_axc i) = 68 ↔ i = 1) ∧ (nI (q_axc i) = 69 ↔ i = 2) ∧ (nI (q_axc i) = 70 ↔ i = 9) ∧ (nI (q_axc i) = 76 ↔ i = 8) ∧ (nI (q_axc i) = 78 ↔ i = 7) ∧ (nI (q_axc i) = 80 ↔ i = 3) ∧ (nI (q_axc i) = 82 ↔ i = 10) ∧ (nI (q_axc i) = 83 ↔ i = 6) ∧ (nI (q_axc i) = 67 ↔ i = 0)) := by decide +kernel
def axB (i : Nat) : Bool := decide (i = 4 ∨ i = 5 ∨ i = 8 ∨ i = 10)
theorem bR_cg {v : Int64} {S S2 : Nat → Bool} (hv : bR v S) (e : ∀ y, y < 64 → S y = S2 y) : bR v S2 := fun y hy => ((hv.at hy)).trans (e y hy)
theorem bR_and {v u : Int64} {S S2 : Nat → Bool} (hv : bR v S) (hu : bR u S2) : bR (v &&& u) (fun y => S y && S2 y) := fun y hy => by rw [b_and, (hv.at hy), (hu.at hy)]
theorem bR_rng {f t : Nat} (hf : f ≤ t) (ht : t ≤ 40) : bR (rgL f t) (fun y => decide (f ≤ y ∧ y < t)) := fun y hy => b_rng hf ht hy
theorem wk_range {f t : Nat} {K : Int64 → hm_T → hz_T → Prop} (hf : f ≤ t) (ht : t ≤ 40) (hK : ∀ v, bR v (fun y => decide (f ≤ y ∧ y < t)) → K v h z) : w_Walker_range dA (nI f) (nI t) K h z := by
  unfold w_Walker_range
  exact hK _ (bR_rng hf ht)
theorem dec_and {p q : Prop} [Decidable p] [Decidable q] : (decide p && decide q) = decide (p ∧ q) := by
  by_cases hp : p
  · by_cases hq : q
    · rw [decide_eq_true hp, decide_eq_true hq, decide_eq_true ⟨hp, hq⟩]; rfl
    · rw [decide_eq_false hq, Bool.and_false, decide_eq_false (fun w => hq w.2)]
  · rw [decide_eq_false hp, Bool.false_and, decide_eq_false (fun w => hp w.1)]
theorem dec_not {p : Prop} [Decidable p] : (!decide p) = decide (¬ p) := by
  by_cases hp : p
  · rw [decide_eq_true hp, decide_eq_false (fun w => w hp)]; rfl
  · rw [decide_eq_false hp, decide_eq_true hp]; rfl
theorem wk_axis (G : wk dA h z w a n B D) {i x : Nat} (hi : i ≤ 10) (hx : x < n) {K : Int64 → hm_T → hz_T → Prop} (hK : ∀ v, bR v (fun y => decide (y ∈ q_ax n D i (some x))) → K v h z) : w_Walker_axis dA w (nI (q_axc i)) (some (B x)) K h z := by
  obtain ⟨mk, ok⟩ := G.ok
  have hn := G.hn
  have pre := G.pre
  obtain ⟨fs, tt, u, c1, c2, c3, c4, c5, c6⟩ := G.cell hx
  obtain ⟨i4, i5, i1, i2, i9, i8, i7, i3, i10, i6, i0⟩ := q_axc_in i (by omega)
  have es := mp_end_spec (pa := fun k => (D k).2.2.1) hx
  have hpx : ∀ q, (D x).2.2.1 = some q → q < n := fun q hq => by have := (ok.2 x hx).2.2.1 q hq; omega
  have ho : ∀ y, (D y).2.2.1 = none → y < n → y = 0 := fun y hy hyn => (ok.2 y hyn).2.2.2.2.2.2.2.2 hy
  have pl : ∀ y p, y < n → (D y).2.2.1 = some p → p < y := fun y p hy hp => (ok.2 y hy).2.2.1 p hp
  unfold w_Walker_axis
  by_cases q4 : i = 4
  · subst q4
    exact if_yes (i4.mpr rfl) (cg_c_of G.W (wk_anc G hx (fun v hv => hK v hv)))
  refine if_no (fun e => q4 (i4.mp e)) ?_
  by_cases q5 : i = 5
  · subst q5
    refine if_yes (i5.mpr rfl) (cg_c_of G.W (wk_anc G hx (fun v hv => cg_d_of (cg_I_of c1 c4 (hK _ (bR.mk (fun y hy => ?_)))))))
    rw [b_or, (hv.at hy), b_one (by omega) hy]
    show _ = decide (y ∈ x :: q_anc D 50 x)
    rw [← Bool.decide_or]
    exact decide_eq_decide.mpr (by rw [List.mem_cons]; exact or_comm)
  refine if_no (fun e => q5 (i5.mp e)) ?_
  by_cases q1 : i = 1
  · subst q1
    refine if_yes (i1.mpr rfl) (cg_d_of (cg_I_of c1 c4 (G.endOf hx ?_)))
    rw [nI_1]
    refine wk_range (by unfold a_end; omega) (by unfold a_end; omega) (fun v hv => hK v (bR_cg hv (fun y hy => ?_)))
    exact decide_eq_decide.mpr (q_rng_mem (a := x + 1) (b := a_end n D x)).symm
  refine if_no (fun e => q1 (i1.mp e)) ?_
  by_cases q2 : i = 2
  · subst q2
    refine if_yes (i2.mpr rfl) (cg_d_of (cg_I_of c1 c4 (G.endOf hx ?_)))
    refine wk_range (by unfold a_end; omega) (by unfold a_end; omega) (fun v hv => hK v (bR_cg hv (fun y hy => ?_)))
    refine decide_eq_decide.mpr ?_
    show _ ↔ y ∈ x :: q_rng (x + 1) (a_end n D x)
    rw [List.mem_cons, q_rng_mem]
    unfold a_end
    omega
  refine if_no (fun e => q2 (i2.mp e)) ?_
  by_cases q9 : i = 9
  · subst q9
    refine if_yes (i9.mpr rfl) (G.endOf hx (G.size (wk_range (by unfold a_end; omega) (by omega) (fun v hv => hK v (bR_cg hv (fun y hy => ?_))))))
    exact decide_eq_decide.mpr (q_rng_mem (a := a_end n D x) (b := n)).symm
  refine if_no (fun e => q9 (i9.mp e)) ?_
  by_cases q8 : i = 8
  · subst q8
    refine if_yes (i8.mpr rfl) (cg_d_of (cg_R_of c1 c3 (cg_c_of G.W (wk_children G hpx (fun v hv => cg_d_of (cg_I_of c1 c4 (wk_range (f := 0) (Nat.zero_le _) (by omega) (fun v2 hv2 => hK _ (bR_cg (bR_and hv hv2) (fun y hy => ?_))))))))))
    rw [dec_and]
    refine decide_eq_decide.mpr ?_
    show _ ↔ y ∈ (q_rng 0 x).reverse.filter (fun k => decide ((D k).2.2.1 = (D x).2.2.1))
    rw [List.mem_filter, List.mem_reverse, q_rng_mem, decide_eq_true_iff]
    constructor
    · rintro ⟨⟨h1, h2, h3⟩, h4, h5⟩
      exact ⟨⟨h4, h5⟩, h3⟩
    · rintro ⟨⟨h1, h2⟩, h3⟩
      exact ⟨⟨by omega, fun e => by have := ho x e hx; omega, h3⟩, h1, h2⟩
  refine if_no (fun e => q8 (i8.mp e)) ?_
  by_cases q7 : i = 7
  · subst q7
    refine if_yes (i7.mpr rfl) (cg_d_of (cg_R_of c1 c3 (cg_c_of G.W (wk_children G hpx (fun v hv => cg_d_of (cg_I_of c1 c4 (G.size ?_)))))))
    rw [nI_1]
    refine wk_range (by omega) (by omega) (fun v2 hv2 => hK _ (bR_cg (bR_and hv hv2) (fun y hy => ?_)))
    rw [dec_and]
    refine decide_eq_decide.mpr ?_
    show _ ↔ y ∈ (q_rng (x + 1) n).filter (fun k => decide ((D k).2.2.1 = (D x).2.2.1))
    rw [List.mem_filter, q_rng_mem, decide_eq_true_iff]
    constructor
    · rintro ⟨⟨h1, h2, h3⟩, h4, h5⟩
      exact ⟨⟨h4, h5⟩, h3⟩
    · rintro ⟨⟨h1, h2⟩, h3⟩
      exact ⟨⟨h2, fun e => by rw [e] at h3; have := ho y h3 h2; omega, h3⟩, h1, h2⟩
  refine if_no (fun e => q7 (i7.mp e)) ?_
  by_cases q3 : i = 3
  · subst q3
    refine if_yes (i3.mpr rfl) (cg_d_of (cg_R_of c1 c3 ?_))
    have ea : q_ax n D 3 (some x) = q_anc D 1 x := rfl
    unfold q_anc at ea
    cases e : (D x).2.2.1 with
    | none =>
      rw [e] at ea
      refine if_yes rfl (hK 0 (bR.mk (fun y hy => ?_)))
      rw [b_zero, ea]
      rfl
    | some p =>
      rw [e] at ea
      rw [e] at c3
      obtain ⟨fs2, tt2, u2, e1, e2, e3, e4, e5, e6⟩ := G.cell (hpx p e)
      refine if_no (by simp) (cg_d_of (cg_R_of c1 c3 (cg_d_of (cg_I_of e1 e4 (hK _ (bR.mk (fun y hy => ?_)))))))
      rw [b_one (by have := hpx p e; omega) hy, ea]
      exact decide_eq_decide.mpr (by simp [q_anc])
  refine if_no (fun e => q3 (i3.mp e)) ?_
  by_cases q10 : i = 10
  · subst q10
    refine if_yes (i10.mpr rfl) (cg_d_of (cg_I_of c1 c4 (wk_range (f := 0) (Nat.zero_le _) (by omega) (fun v hv => cg_c_of G.W (wk_anc G hx (fun v2 hv2 => hK _ (bR.mk (fun y hy => ?_))))))))
    rw [b_and, (hv.at hy), b_not hy, (hv2.at hy), dec_not, dec_and]
    refine decide_eq_decide.mpr ?_
    show _ ↔ y ∈ (q_rng 0 x).reverse.filter (fun k => decide (a_end n D k ≤ x))
    rw [List.mem_filter, List.mem_reverse, q_rng_mem, decide_eq_true_iff]
    constructor
    · rintro ⟨⟨h1, h2⟩, h3⟩
      have := q_anc_end ok pre 50 x (by omega) hx h2
      exact ⟨⟨h1, h2⟩, Nat.le_of_not_lt (fun w => h3 (this.mpr w))⟩
    · rintro ⟨⟨h1, h2⟩, h3⟩
      have := q_anc_end ok pre 50 x (by omega) hx h2
      exact ⟨⟨h1, h2⟩, fun w => by have := this.mp w; omega⟩
  refine if_no (fun e => q10 (i10.mp e)) ?_
  by_cases q6 : i = 6
  · subst q6
    refine if_yes (i6.mpr rfl) (cg_d_of (cg_I_of c1 c4 (hK _ (bR.mk (fun y hy => ?_)))))
    rw [b_one (by omega) hy]
    exact decide_eq_decide.mpr (by show _ ↔ y ∈ [x]; simp)
  refine if_no (fun e => q6 (i6.mp e)) ?_
  have q0 : i = 0 := by omega
  subst q0
  unfold w_Walker_axis_255
  refine cg_c_of G.W (wk_children G (p := some x) (fun q hq => by cases hq; exact hx) (fun v hv => hK v (bR_cg hv (fun y hy => ?_))))
  refine decide_eq_decide.mpr ?_
  show _ ↔ y ∈ (q_rng (x + 1) n).filter (fun k => decide ((D k).2.2.1 = some x))
  rw [List.mem_filter, q_rng_mem, decide_eq_true_iff]
  constructor
  · rintro ⟨h1, h2, h3⟩
    have := pl y x h1 h3
    exact ⟨⟨by omega, h1⟩, h3⟩
  · rintro ⟨⟨h1, h2⟩, h3⟩
    exact ⟨h2, by simp, h3⟩
theorem wk_docAxis (G : wk dA h z w a n B D) {i : Nat} (hi : i ≤ 10) (h0 : 0 < n) {K : Int64 → hm_T → hz_T → Prop} (hK : ∀ v, bR v (fun y => decide (y ∈ q_ax n D i none)) → K v h z) : w_Walker_documentAxis dA w (nI (q_axc i)) K h z := by
  have hn := G.hn
  obtain ⟨i4, i5, i1, i2, i9, i8, i7, i3, i10, i6, i0⟩ := q_axc_in i (by omega)
  have all : i = 1 ∨ i = 2 → w_Walker_documentAxis_30 dA w K h z := fun q => by
    unfold w_Walker_documentAxis_30
    refine G.size (wk_range (f := 0) (Nat.zero_le _) hn (fun v hv => hK v (bR_cg hv (fun y hy => ?_))))
    have e : q_ax n D i none = q_rng 0 n := by
      unfold q_ax
      simp only []
      rw [if_neg (by omega), if_pos q]
    rw [e]
    exact decide_eq_decide.mpr (q_rng_mem (a := 0) (b := n)).symm
  unfold w_Walker_documentAxis
  by_cases q0 : i = 0
  · subst q0
    refine if_yes (i0.mpr rfl) (hK 1 (bR.mk (fun y hy => ?_)))
    have e : q_ax n D 0 none = [0] := by
      unfold q_ax
      simp only []
      rw [if_pos trivial, if_neg (by omega)]
    have e1 := b_one (x := 0) (y := y) (by decide) hy
    rw [show (1 : Int64) <<< ((nI 0).toInt64 &&& 63) = 1 by decide] at e1
    rw [e1, e]
    exact decide_eq_decide.mpr (by simp)
  refine if_no (fun e => q0 (i0.mp e)) ?_
  by_cases q1 : i = 1
  · exact if_yes (i1.mpr q1) (all (Or.inl q1))
  refine if_no (fun e => q1 (i1.mp e)) ?_
  by_cases q2 : i = 2
  · exact if_yes (i2.mpr q2) (all (Or.inr q2))
  refine if_no (fun e => q2 (i2.mp e)) (hK 0 (bR.mk (fun y hy => ?_)))
  have e : q_ax n D i none = [] := by
    unfold q_ax
    simp only []
    rw [if_neg q0, if_neg (by omega)]
  rw [b_zero, e]
  rfl
/-- the list of an axis goes one way -/
theorem q_anc_srt {mk : Nat} (ok : nd_ok mk n D) : ∀ (f x : Nat), x < n → srt true (q_anc D f x) := by
  intro f
  induction f with
  | zero => intro x _; exact List.Pairwise.nil
  | succ f ih =>
    intro x hx
    unfold q_anc
    cases e : (D x).2.2.1 with
    | none => exact List.Pairwise.nil
    | some p =>
      have hp := (ok.2 x hx).2.2.1 p e
      exact List.pairwise_cons.mpr ⟨fun y hy => by have := (q_anc_len ok f p (by omega)).2 y hy; simpa using this, ih p (by omega)⟩
theorem q_rng_srt {f t : Nat} : srt false (q_rng f t) := by
  unfold q_rng srt
  rw [List.pairwise_map]
  exact List.pairwise_lt_range.imp (fun h => by simpa using h)
theorem srt_rev {l : List Nat} (s : srt false l) : srt true l.reverse := by
  unfold srt at *
  rw [List.pairwise_reverse]
  exact s.imp (fun h => by simpa using h)
theorem srt_1 {bk : Bool} {x : Nat} : srt bk [x] := List.pairwise_cons.mpr ⟨fun y hy => (by cases hy), List.Pairwise.nil⟩
theorem q_ax_srt {mk : Nat} (ok : nd_ok mk n D) {i : Nat} (hi : i ≤ 10) {xo : Option Nat} (hxo : ∀ x, xo = some x → x < n) : srt (axB i) (q_ax n D i xo) := by
  cases xo with
  | none =>
    unfold q_ax
    simp only []
    by_cases q0 : i = 0
    · rw [if_pos q0]
      by_cases qn : n = 0
      · rw [if_pos qn]; exact List.Pairwise.nil
      · rw [if_neg qn]; exact srt_1
    · rw [if_neg q0]
      by_cases q1 : i = 1 ∨ i = 2
      · rw [if_pos q1]
        have e : axB i = false := decide_eq_false (by omega)
        rw [e]
        exact q_rng_srt
      · rw [if_neg q1]; exact List.Pairwise.nil
  | some x =>
    have hx := hxo x rfl
    by_cases q : i = 4 ∨ i = 5 ∨ i = 8 ∨ i = 10
    · have e : axB i = true := decide_eq_true q
      rw [e]
      rcases q with q | q | q | q
      · subst q; exact q_anc_srt ok 50 x hx
      · subst q
        exact List.pairwise_cons.mpr ⟨fun y hy => by have := (q_anc_len ok 50 x hx).2 y hy; simpa using this, q_anc_srt ok 50 x hx⟩
      · subst q; exact (srt_rev q_rng_srt).filter _
      · subst q; exact (srt_rev q_rng_srt).filter _
    · have e : axB i = false := decide_eq_false q
      rw [e]
      unfold q_ax
      simp only []
      by_cases q0 : i = 0
      · rw [if_pos q0]; exact q_rng_srt.filter _
      rw [if_neg q0]
      by_cases q1 : i = 1
      · rw [if_pos q1]; exact q_rng_srt
      rw [if_neg q1]
      by_cases q2 : i = 2
      · rw [if_pos q2]
        exact List.pairwise_cons.mpr ⟨fun y hy => by have := q_rng_mem.mp hy; simp; omega, q_rng_srt⟩
      rw [if_neg q2]
      by_cases q3 : i = 3
      · rw [if_pos q3]
        unfold q_anc
        cases (D x).2.2.1 with
        | none => exact List.Pairwise.nil
        | some p => exact srt_1
      rw [if_neg q3, if_neg (by omega), if_neg (by omega)]
      by_cases q6 : i = 6
      · rw [if_pos q6]; exact srt_1
      rw [if_neg q6]
      by_cases q7 : i = 7
      · rw [if_pos q7]; exact q_rng_srt.filter _
      rw [if_neg q7, if_neg (by omega)]
      by_cases q9 : i = 9
      · rw [if_pos q9]; exact q_rng_srt
      rw [if_neg q9]
      exfalso
      omega
end QV4
