/-! ===== bits ===== -/
theorem bt_iff (s k : Nat) : bt s k ↔ s.testBit k = true := by
  rw [Nat.testBit_eq_decide_div_mod_eq]
  simp [bt]
theorem shk : ∀ k : Nat, k < 32 → ((iI k &&& (31 : Int32)).toBitVec.smod 32).toNat = k := by decide
theorem un_shl {k : Nat} (hk : k < 32) : un ((1 : Int32) <<< (iI k &&& 31)) = 2 ^ k := by
  unfold un
  rw [pk_shl _ _ k (shk k hk)]
  have h1 : (1 : Int32).toBitVec.toNat = 1 := rfl
  have h2 : 2 ^ k < 2 ^ 32 := Nat.pow_lt_pow_right (by omega) hk
  rw [h1, Nat.one_mul, Nat.mod_eq_of_lt h2]
theorem un_or (x y : Int32) : un (x ||| y) = un x ||| un y := by
  unfold un
  rw [Int32.toBitVec_or, BitVec.toNat_or]
theorem un_and (x y : Int32) : un (x &&& y) = un x &&& un y := by
  unfold un
  rw [Int32.toBitVec_and, BitVec.toNat_and]
theorem un_orb (x : Int32) {k : Nat} (hk : k < 32) : un (x ||| ((1 : Int32) <<< (iI k &&& 31))) = un x ||| 2 ^ k := by
  rw [un_or, un_shl hk]
theorem bt_or (s k j : Nat) : bt (s ||| 2 ^ k) j ↔ bt s j ∨ j = k := by
  rw [bt_iff, bt_iff, Nat.testBit_or, Nat.testBit_two_pow]
  simp only [Bool.or_eq_true, decide_eq_true_eq]
  constructor
  · rintro (h | h)
    · exact Or.inl h
    · exact Or.inr h.symm
  · rintro (h | h)
    · exact Or.inl h
    · exact Or.inr h.symm
theorem or_add {s k : Nat} (h : s < 2 ^ k) : s ||| 2 ^ k = s + 2 ^ k := by
  have := Nat.two_pow_add_eq_or_of_lt h 1
  rw [Nat.mul_one] at this
  rw [Nat.or_comm, ← this, Nat.add_comm]
def bsm (f : Nat → Bool) : Nat → Nat
  | 0 => 0
  | k + 1 => bsm f k + if f k then 2 ^ k else 0
theorem bsm_lt (f : Nat → Bool) : ∀ k, bsm f k < 2 ^ k
  | 0 => by simp [bsm]
  | k + 1 => by
    have := bsm_lt f k
    unfold bsm
    rw [Nat.pow_succ]
    split <;> omega
theorem bsm_congr {f g : Nat → Bool} : ∀ k, (∀ j, j < k → f j = g j) → bsm f k = bsm g k
  | 0, _ => rfl
  | k + 1, h => by
    unfold bsm
    rw [bsm_congr k (fun j hj => h j (by omega)), h k (by omega)]
theorem bt_out {s k : Nat} (h : s < 2 ^ k) : ¬ bt s k := by
  unfold bt
  rw [Nat.div_eq_of_lt h]
  omega
theorem bt_big {s k j : Nat} (h : s < 2 ^ k) (hj : k ≤ j) : ¬ bt s j := bt_out (Nat.lt_of_lt_of_le h (Nat.pow_le_pow_right (by omega) hj))
theorem bsm_bit (f : Nat → Bool) : ∀ t j, bt (bsm f t) j ↔ j < t ∧ f j = true
  | 0, j => by
    constructor
    · intro h
      exact absurd h (bt_big (s := bsm f 0) (k := 0) (bsm_lt f 0) (by omega))
    · rintro ⟨h, -⟩
      omega
  | t + 1, j => by
    unfold bsm
    have ih := bsm_bit f t j
    cases hf : f t with
    | true =>
      simp only [if_true]
      rw [← or_add (bsm_lt f t), bt_or, ih]
      constructor
      · rintro (⟨h1, h2⟩ | h)
        · exact ⟨by omega, h2⟩
        · exact ⟨by omega, by rw [h]; exact hf⟩
      · rintro ⟨h1, h2⟩
        by_cases e : j = t
        · exact Or.inr e
        · exact Or.inl ⟨by omega, h2⟩
    | false =>
      simp only [Bool.false_eq_true, if_false, Nat.add_zero]
      rw [ih]
      constructor
      · rintro ⟨h1, h2⟩
        exact ⟨by omega, h2⟩
      · rintro ⟨h1, h2⟩
        refine ⟨?_, h2⟩
        rcases Nat.lt_or_ge j t with h | h
        · exact h
        · rw [show j = t by omega, hf] at h2
          cases h2
theorem or_bit {s k : Nat} (hs : s < 2 ^ k) (hk : k < 31) : iI s ||| ((1 : Int32) <<< (iI k &&& 31)) = iI ((s + 2 ^ k : Nat) : Int) := by
  have h2 : 2 ^ k < 2 ^ 31 := Nat.pow_lt_pow_right (by omega) hk
  apply un_inj
  rw [un_orb _ (by omega), un_iI (by omega), un_iI (by omega), or_add hs]
theorem bsm_step {f : Nat → Bool} {t : Nat} (ht : t < 31) (hf : f t = true) : iI (bsm f t) ||| ((1 : Int32) <<< (iI t &&& 31)) = iI (bsm f (t + 1) : Nat) := by
  rw [or_bit (bsm_lt f t) ht]
  conv => rhs; unfold bsm
  rw [if_pos hf]
theorem bsm_stay {f : Nat → Bool} {t : Nat} (hf : f t = false) : bsm f (t + 1) = bsm f t := by
  conv => lhs; unfold bsm
  rw [hf]; simp
section X39
variable {B n : Nat} {wa : Nat → Nat} {σ : Sg} {A : AS}
/-- the walks with a print in a cell, as bits -/
def prs (A : AS) (c : Int) : Nat := bsm (fun k => decide (lIn (wk A k) c ≠ -1)) (wn A)
theorem x_prints (h : RC B wa σ A) (hA : Wf A) {x y : Int} (hx : RI x) (hy : RI y) (hn : 100000 ≤ n) : mX9_prints n σ B (iI x) (iI y) = some (iI (if cAt A x y = -1 then -1 else prs A (cAt A x y)), σ) := by
  have h8 := hA.2.2.1.1
  have hc := cAt_RI A hA x y
  have rc : RI (cAt A x y) := RI.sm (by omega) (by omega)
  unfold mX9_prints
  simp only [h.o, Option.bind_some, x_cellAt h hA hx hy]
  by_cases c0 : cAt A x y = -1
  · rw [if_pos ((c_eqm rc).mpr c0), if_pos c0]; rfl
  · rw [if_neg (fun q => c0 ((c_eqm rc).mp q)), if_neg c0]
    generalize hf : (fun k => decide (lIn (wk A k) (cAt A x y) ≠ -1)) = f
    have L : loopM (mX9_prints_L20 n B (iI (cAt A x y))) n (σ, (0 : Int32), (0 : Int32)) = some (σ, iI (bsm f (wn A) : Nat)) := by
      have e0 : (σ, (0 : Int32), (0 : Int32)) = (fun t : Nat => (σ, iI (bsm f t : Nat), iI (t : Int))) 0 := rfl
      rw [e0]
      refine loop_run (fun t : Nat => (σ, iI (bsm f t : Nat), iI (t : Int))) (wn A) 0 (fun t _ ht => ?_) ?_ n (by omega)
      · have rt : RI (t : Int) := RI.sm (by omega) (by omega)
        have hp := x_printsIn (n := n) h hA rt rc
        simp only [mX9_prints_L20, h.qwn, Option.bind_some, hp]
        rw [if_neg (fun q => by have := (c_le (RI.sm (by omega) (by omega)) rt).mp q; omega)]
        have hft : f t = decide (lIn (wk A t) (cAt A x y) ≠ -1) := by rw [← hf]
        have e1 : ((t + 1 : Nat) : Int) = (t : Int) + 1 := rfl
        by_cases c1 : lIn (wk A t) (cAt A x y) = -1
        · have hq : ¬ pIn A t (cAt A x y) := fun q => q.2 (by rw [show ((t : Int)).toNat = t by omega]; exact c1)
          rw [if_neg hq, if_pos i00]
          simp only [mX9_prints_48, iI_1, iI_add]
          rw [bsm_stay (by rw [hft]; simp [c1])]; rfl
        · have hq : pIn A t (cAt A x y) := ⟨⟨by omega, by omega⟩, by rw [show ((t : Int)).toNat = t by omega]; exact c1⟩
          rw [if_pos hq, if_neg i10]
          simp only [mX9_prints_48, nm]
          rw [bsm_step (by omega) (by rw [hft]; simp [c1])]
          simp only [iI_1, iI_add]; rfl
      · simp only [Nat.zero_add, mX9_prints_L20, h.qwn, Option.bind_some]
        rw [if_pos ((c_le (RI.sm (by omega) (by omega)) (RI.sm (by omega) (by omega))).mpr (by omega))]
    simp only [L, Option.bind_some]
    unfold prs
    rw [hf]
/-- the facts that one told, as bits -/
def wrd (A : AS) (who : Int) : Nat := bsm (fun k => decide ((fc A k).1 = who)) (fn A)
theorem x_words (h : RC B wa σ A) (hA : Wf A) {who : Int} (hw : RI who) (hn : 100000 ≤ n) : mX9_words n σ B (iI who) = some (iI (if -1 ≤ who ∧ who ≤ 5 then wrd A who else -1), σ) := by
  have hf20 := hA.2.2.2.1.1
  unfold mX9_words
  simp only [h.o, Option.bind_some, x_isWho hw]
  by_cases c0 : -1 ≤ who ∧ who ≤ 5
  · rw [if_pos c0, if_neg i10, if_pos c0]
    generalize hf : (fun k => decide ((fc A k).1 = who)) = f
    have L : loopM (mX9_words_L13 n B (iI who)) n (σ, (0 : Int32), (0 : Int32)) = some (σ, iI (bsm f (fn A) : Nat)) := by
      have e0 : (σ, (0 : Int32), (0 : Int32)) = (fun t : Nat => (σ, iI (bsm f t : Nat), iI (t : Int))) 0 := rfl
      rw [e0]
      refine loop_run (fun t : Nat => (σ, iI (bsm f t : Nat), iI (t : Int))) (fn A) 0 (fun t _ ht => ?_) ?_ n (by omega)
      · have rt : RI (t : Int) := RI.sm (by omega) (by omega)
        have hF := h.factAt (k := t) (by omega)
        have hW := hA.2.2.2.1.2 t (by omega)
        simp only [mX9_words_L13, h.qfn, h.r7, h.fact (show t < 20 by omega), Option.bind_some, gI_ok hF.1 (show 0 < 5 by omega) hF.2.1]
        rw [if_neg (fun q => by have := (c_le (RI.sm (by omega) (by omega)) rt).mp q; omega)]
        have hft : f t = decide ((fc A t).1 = who) := by rw [← hf]
        by_cases c1 : (fc A t).1 = who
        · rw [if_pos (by rw [c1])]
          simp only [mX9_words_40, nm]
          rw [bsm_step (by omega) (by rw [hft]; simp [c1])]
          simp only [iI_1, iI_add]; rfl
        · rw [if_neg (fun q => c1 ((c_eq (RI.sm (by have := hW.1; omega) (by have := hW.2.1; omega)) hw).mp q))]
          simp only [mX9_words_40, iI_1, iI_add]
          rw [bsm_stay (by rw [hft]; simp [c1])]; rfl
      · simp only [Nat.zero_add, mX9_words_L13, h.qfn, Option.bind_some]
        rw [if_pos ((c_le (RI.sm (by omega) (by omega)) (RI.sm (by omega) (by omega))).mpr (by omega))]
    simp only [L, Option.bind_some]
    unfold wrd
    rw [hf]
  · rw [if_neg c0, if_pos i00, if_neg c0]; rfl
/-- Integer.bitCount -/
def bcI (x : Int32) : Int32 := match mJ_bitCount 0 (0, fun _ => none, fun _ _ => .null) x with | some (r, _) => r | none => 0
theorem j_bitCount (x : Int32) : mJ_bitCount n σ x = some (bcI x, σ) := rfl
end X39
