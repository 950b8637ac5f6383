/-! ===== Integer.bitCount ===== -/
theorem land_split {a m y M : Nat} (ha : a < 256) (hm : m < 256) : (a + 256 * y) &&& (m + 256 * M) = (a &&& m) + 256 * (y &&& M) := by
  apply Nat.eq_of_testBit_eq
  intro j
  have h1 : ∀ (b z : Nat), b < 256 → (b + 256 * z).testBit j = if j < 8 then b.testBit j else z.testBit (j - 8) := fun b z hb => by
    rw [Nat.add_comm]
    exact Nat.testBit_two_pow_mul_add z (i := 8) hb j
  have h2 : a &&& m < 256 := Nat.lt_of_le_of_lt Nat.and_le_left ha
  rw [Nat.testBit_and, h1 a y ha, h1 m M hm, h1 _ _ h2]
  split <;> rw [Nat.testBit_and]
/-- the stages of bitCount, as numbers -/
def sg1 (x : Nat) : Nat := x - (x / 2 &&& 1431655765)
def sg2 (x : Nat) : Nat := (x &&& 858993459) + (x / 4 &&& 858993459)
def sg3 (x : Nat) : Nat := (x + x / 16) &&& 252645135
def sg (x : Nat) : Nat := sg3 (sg2 (sg1 x))
theorem un_sub {x y : Int32} (h : un y ≤ un x) : un (x - y) = un x - un y := by
  have e : un (x - y) = (2 ^ 32 - un y + un x) % 2 ^ 32 := by
    unfold un
    rw [Int32.toBitVec_sub, BitVec.toNat_sub]
  have h1 := un_lt x
  have h2 := un_lt y
  rw [e]
  omega
theorem un_add {x y : Int32} (h : un x + un y < 4294967296) : un (x + y) = un x + un y := by
  have e : un (x + y) = (un x + un y) % 2 ^ 32 := by
    unfold un
    rw [Int32.toBitVec_add, BitVec.toNat_add]
  rw [e]
  exact Nat.mod_eq_of_lt h
theorem un_sh (x : Int32) (k : Nat) (hk : k < 32) (s : Int32) (hs : s = iI k) : un (x.toUInt32 >>> (s.toUInt32 &&& Int32.toUInt32 31)).toInt32 = un x / 2 ^ k := by
  rw [hs]; exact ushr_un x hk
theorem bc_un {x : Int32} (hx : un x < 2 ^ 20) : un (bcI x) = (let v := sg (un x); let w := v + v / 256; let z := w + w / 65536; z &&& 63) := by
  have k1 : un ((x.toUInt32 >>> ((1 : Int32).toUInt32 &&& Int32.toUInt32 31)).toInt32 &&& (1431655765 : Int32)) = (un x / 2 &&& 1431655765) := by
    rw [un_and, un_sh x 1 (by omega) 1 rfl]; rfl
  have l1 : (un x / 2 &&& 1431655765) ≤ un x / 2 := Nat.and_le_left
  have k2 : un (x - ((x.toUInt32 >>> ((1 : Int32).toUInt32 &&& Int32.toUInt32 31)).toInt32 &&& (1431655765 : Int32))) = sg1 (un x) := by
    rw [un_sub (by rw [k1]; omega), k1]; rfl
  have d1 : sg1 (un x) ≤ un x := Nat.sub_le _ _
  generalize hv1 : x - ((x.toUInt32 >>> ((1 : Int32).toUInt32 &&& Int32.toUInt32 31)).toInt32 &&& (1431655765 : Int32)) = v1 at k2
  have a1 : un (v1 &&& (858993459 : Int32)) = (un v1 &&& 858993459) := by rw [un_and]; rfl
  have a2 : un ((v1.toUInt32 >>> ((2 : Int32).toUInt32 &&& Int32.toUInt32 31)).toInt32 &&& (858993459 : Int32)) = (un v1 / 4 &&& 858993459) := by
    rw [un_and, un_sh v1 2 (by omega) 2 rfl]; rfl
  have b1 : (un v1 &&& 858993459) ≤ un v1 := Nat.and_le_left
  have b2 : (un v1 / 4 &&& 858993459) ≤ un v1 / 4 := Nat.and_le_left
  have k3 : un ((v1 &&& (858993459 : Int32)) + ((v1.toUInt32 >>> ((2 : Int32).toUInt32 &&& Int32.toUInt32 31)).toInt32 &&& (858993459 : Int32))) = sg2 (un v1) := by
    rw [un_add (by rw [a1, a2]; omega), a1, a2]; rfl
  have d2 : sg2 (un v1) ≤ 2 * un v1 := by unfold sg2; omega
  generalize hv2 : (v1 &&& (858993459 : Int32)) + ((v1.toUInt32 >>> ((2 : Int32).toUInt32 &&& Int32.toUInt32 31)).toInt32 &&& (858993459 : Int32)) = v2 at k3
  have a3 : un (v2.toUInt32 >>> ((4 : Int32).toUInt32 &&& Int32.toUInt32 31)).toInt32 = un v2 / 16 := un_sh v2 4 (by omega) 4 rfl
  have k4 : un ((v2 + (v2.toUInt32 >>> ((4 : Int32).toUInt32 &&& Int32.toUInt32 31)).toInt32) &&& (252645135 : Int32)) = sg3 (un v2) := by
    rw [un_and, un_add (by rw [a3]; omega), a3]; rfl
  have d3 : sg3 (un v2) ≤ 2 * un v2 := by
    have : sg3 (un v2) ≤ un v2 + un v2 / 16 := Nat.and_le_left
    omega
  generalize hv3 : (v2 + (v2.toUInt32 >>> ((4 : Int32).toUInt32 &&& Int32.toUInt32 31)).toInt32) &&& (252645135 : Int32) = v3 at k4
  have a4 : un (v3.toUInt32 >>> ((8 : Int32).toUInt32 &&& Int32.toUInt32 31)).toInt32 = un v3 / 256 := un_sh v3 8 (by omega) 8 rfl
  have k5 : un (v3 + (v3.toUInt32 >>> ((8 : Int32).toUInt32 &&& Int32.toUInt32 31)).toInt32) = un v3 + un v3 / 256 := by
    rw [un_add (by rw [a4]; omega), a4]
  generalize hv4 : v3 + (v3.toUInt32 >>> ((8 : Int32).toUInt32 &&& Int32.toUInt32 31)).toInt32 = v4 at k5
  have a5 : un (v4.toUInt32 >>> ((16 : Int32).toUInt32 &&& Int32.toUInt32 31)).toInt32 = un v4 / 65536 := un_sh v4 16 (by omega) 16 rfl
  have k6 : un (v4 + (v4.toUInt32 >>> ((16 : Int32).toUInt32 &&& Int32.toUInt32 31)).toInt32) = un v4 + un v4 / 65536 := by
    rw [un_add (by rw [a5]; omega), a5]
  generalize hv5 : v4 + (v4.toUInt32 >>> ((16 : Int32).toUInt32 &&& Int32.toUInt32 31)).toInt32 = v5 at k6
  have e : bcI x = (v5 &&& (63 : Int32)) := by
    rw [← hv5, ← hv4, ← hv3, ← hv2, ← hv1]; rfl
  rw [e, un_and, k6, k5, k4, k3, k2]
  rfl
def p1 (a : Nat) : Nat := a - (a / 2 &&& 85)
def p2 (a : Nat) : Nat := (a &&& 51) + (a / 4 &&& 51)
def p3 (a : Nat) : Nat := (a + a / 16) &&& 15
theorem land3 {a b c m : Nat} (ha : a < 256) (hb : b < 256) (hc : c < 256) (hm : m < 256) : (a + 256 * (b + 256 * c)) &&& (m + 256 * (m + 256 * (m + 256 * m))) = (a &&& m) + 256 * ((b &&& m) + 256 * (c &&& m)) := by
  have h := land_split (a := c) (y := 0) (m := m) (M := m) hc hm
  rw [Nat.mul_zero, Nat.add_zero, Nat.zero_and, Nat.mul_zero, Nat.add_zero] at h
  rw [land_split ha hm, land_split hb hm, h]
theorem q1a : ∀ a : Nat, a < 256 → ∀ b : Nat, b < 2 → ((a / 2 + 128 * b) &&& 85) = (a / 2 &&& 85) := by decide +kernel
theorem q1b : ∀ a : Nat, a < 256 → (a / 2 &&& 85) ≤ a ∧ p1 a < 256 := by decide +kernel
theorem q2a : ∀ a : Nat, a < 256 → ∀ b : Nat, b < 4 → ((a / 4 + 64 * b) &&& 51) = (a / 4 &&& 51) := by decide +kernel
theorem q2b : ∀ a : Nat, a < 256 → p2 (p1 a) ≤ 68 ∧ p2 (p1 a) % 16 ≤ 4 := by decide +kernel
theorem q3a : ∀ a : Nat, a < 69 → ∀ b : Nat, b < 5 → ((a + a / 16 + 16 * b) &&& 15) = p3 a := by decide +kernel
theorem q4 : ∀ a : Nat, a < 256 → p3 (p2 (p1 a)) = cntB a 8 ∧ cntB a 8 ≤ 8 := by decide +kernel
theorem and_le_l (a b : Nat) : a &&& b ≤ a := Nat.and_le_left
theorem sg1_3 {a b c : Nat} (ha : a < 256) (hb : b < 256) (hc : c < 256) : sg1 (a + 256 * (b + 256 * c)) = p1 a + 256 * (p1 b + 256 * p1 c) := by
  have e : (a + 256 * (b + 256 * c)) / 2 = (a / 2 + 128 * (b % 2)) + 256 * ((b / 2 + 128 * (c % 2)) + 256 * (c / 2 + 128 * 0)) := by omega
  unfold sg1
  rw [e, show (1431655765 : Nat) = 85 + 256 * (85 + 256 * (85 + 256 * 85)) from rfl, land3 (by omega) (by omega) (by omega) (by omega), q1a a ha _ (by omega), q1a b hb _ (by omega), q1a c hc _ (by omega)]
  have h1 := (q1b a ha).1
  have h2 := (q1b b hb).1
  have h3 := (q1b c hc).1
  unfold p1
  omega
theorem sg2_3 {a b c : Nat} (ha : a < 256) (hb : b < 256) (hc : c < 256) : sg2 (a + 256 * (b + 256 * c)) = p2 a + 256 * (p2 b + 256 * p2 c) := by
  have e : (a + 256 * (b + 256 * c)) / 4 = (a / 4 + 64 * (b % 4)) + 256 * ((b / 4 + 64 * (c % 4)) + 256 * (c / 4 + 64 * 0)) := by omega
  unfold sg2
  rw [e, show (858993459 : Nat) = 51 + 256 * (51 + 256 * (51 + 256 * 51)) from rfl, land3 ha hb hc (by omega), land3 (by omega) (by omega) (by omega) (by omega), q2a a ha _ (by omega), q2a b hb _ (by omega), q2a c hc _ (by omega)]
  unfold p2
  omega
theorem sg3_3 {a b c : Nat} (ha : a < 69) (hb : b < 69) (hc : c < 69) (hb4 : b % 16 ≤ 4) (hc4 : c % 16 ≤ 4) : sg3 (a + 256 * (b + 256 * c)) = p3 a + 256 * (p3 b + 256 * p3 c) := by
  have e : (a + 256 * (b + 256 * c)) + (a + 256 * (b + 256 * c)) / 16 = (a + a / 16 + 16 * (b % 16)) + 256 * ((b + b / 16 + 16 * (c % 16)) + 256 * (c + c / 16 + 16 * 0)) := by omega
  unfold sg3
  rw [e, show (252645135 : Nat) = 15 + 256 * (15 + 256 * (15 + 256 * 15)) from rfl, land3 (by omega) (by omega) (by omega) (by omega), q3a a ha _ (by omega), q3a b hb _ (by omega), q3a c hc _ (by omega)]
theorem cnt_low (a y : Nat) (ha : a < 256) : ∀ m, m ≤ 8 → cntB (a + 256 * y) m = cntB a m
  | 0, _ => rfl
  | m + 1, hm => by
    have ih := cnt_low a y ha m (by omega)
    show cntB (a + 256 * y) m + (a + 256 * y) / 2 ^ m % 2 = cntB a m + a / 2 ^ m % 2
    rw [ih]
    have : (a + 256 * y) / 2 ^ m % 2 = a / 2 ^ m % 2 := by
      rcases (show m = 0 ∨ m = 1 ∨ m = 2 ∨ m = 3 ∨ m = 4 ∨ m = 5 ∨ m = 6 ∨ m = 7 by omega) with e | e | e | e | e | e | e | e <;> subst e <;> simp only [Nat.reducePow] <;> omega
    omega
theorem cnt_high (a y : Nat) (ha : a < 256) : ∀ m, cntB (a + 256 * y) (8 + m) = cntB a 8 + cntB y m
  | 0 => cnt_low a y ha 8 (Nat.le_refl 8)
  | m + 1 => by
    have ih := cnt_high a y ha m
    show cntB (a + 256 * y) (8 + m) + (a + 256 * y) / 2 ^ (8 + m) % 2 = cntB a 8 + (cntB y m + y / 2 ^ m % 2)
    rw [ih, Nat.pow_add, ← Nat.div_div_eq_div_mul, show (a + 256 * y) / 2 ^ 8 = y by omega]
    omega
theorem cnt_big {S : Nat} {m : Nat} (h : S < 2 ^ m) : ∀ k, cntB S (m + k) = cntB S m
  | 0 => rfl
  | k + 1 => by
    show cntB S (m + k) + S / 2 ^ (m + k) % 2 = cntB S m
    have h2 : 2 ^ m ≤ 2 ^ (m + k) := Nat.pow_le_pow_right (by omega) (by omega)
    rw [cnt_big h k, Nat.div_eq_of_lt (by omega)]; omega
/-- bitCount counts -/
theorem bc_cnt {x : Int32} {m : Nat} (hm : m ≤ 20) (hx : un x < 2 ^ m) : bcI x = iI (cntB (un x) m) ∧ cntB (un x) m ≤ 20 := by
  have h20 : 2 ^ m ≤ 2 ^ 20 := Nat.pow_le_pow_right (by omega) hm
  have hc20 : cntB (un x) m = cntB (un x) 20 := by
    have := cnt_big hx (20 - m)
    rw [show m + (20 - m) = 20 by omega] at this
    exact this.symm
  have hx20 : un x < 2 ^ 20 := by omega
  generalize ha : un x % 256 = a
  generalize hb : un x / 256 % 256 = b
  generalize hc : un x / 65536 = c
  have e : un x = a + 256 * (b + 256 * c) := by omega
  have a1 : a < 256 := by omega
  have b1 : b < 256 := by omega
  have c1 : c < 16 := by omega
  have la := q2b a a1
  have lb := q2b b b1
  have lc := q2b c (by omega)
  have s : sg (un x) = cntB a 8 + 256 * (cntB b 8 + 256 * cntB c 8) := by
    unfold sg
    rw [e, sg1_3 a1 b1 (by omega), sg2_3 (q1b a a1).2 (q1b b b1).2 (q1b c (by omega)).2, sg3_3 (by omega) (by omega) (by omega) lb.2 lc.2, (q4 a a1).1, (q4 b b1).1, (q4 c (by omega)).1]
  have k1 := (q4 a a1).2
  have k2 := (q4 b b1).2
  have k3 := (q4 c (by omega)).2
  have t1 : cntB (un x) 20 = cntB a 8 + (cntB b 8 + cntB c 4) := by
    rw [e, show 20 = 8 + (8 + 4) from rfl, cnt_high a _ a1, cnt_high b _ b1]
  have t2 : cntB c 8 = cntB c 4 := cnt_big (S := c) (m := 4) (by omega) 4
  have t3 : cntB c 4 ≤ 4 := by
    show cntB c 0 + c / 2 ^ 0 % 2 + c / 2 ^ 1 % 2 + c / 2 ^ 2 % 2 + c / 2 ^ 3 % 2 ≤ 4
    have : cntB c 0 = 0 := rfl
    omega
  have u := bc_un hx20
  rw [s] at u
  have u2 : un (bcI x) = cntB a 8 + (cntB b 8 + cntB c 8) := by
    rw [u]
    show (cntB a 8 + 256 * (cntB b 8 + 256 * cntB c 8) + (cntB a 8 + 256 * (cntB b 8 + 256 * cntB c 8)) / 256 + (cntB a 8 + 256 * (cntB b 8 + 256 * cntB c 8) + (cntB a 8 + 256 * (cntB b 8 + 256 * cntB c 8)) / 256) / 65536) &&& (2 ^ 6 - 1) = _
    rw [Nat.and_two_pow_sub_one_eq_mod]
    generalize cntB a 8 = q at *
    generalize cntB b 8 = r at *
    generalize cntB c 8 = z at *
    have z1 : (q + 256 * (r + 256 * z)) / 256 = r + 256 * z := by omega
    rw [z1]
    have z2 : (q + 256 * (r + 256 * z) + (r + 256 * z)) / 65536 = z := by omega
    rw [z2]
    omega
  refine ⟨?_, by omega⟩
  rw [hc20, t1, ← t2, ← u2]
  exact un_of (by omega)
