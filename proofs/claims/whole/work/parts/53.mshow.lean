/-! ===== the reference: bits, judge, shown, trail, feed ===== -/
theorem un_pos {x : Int32} (h : ¬ x < iI 0) : un x < 2147483648 := by
  have h1 : ¬ x.toInt < 0 := fun q => h (by rw [Int32.lt_iff_toInt_lt, iI_toInt (by omega) (by omega)]; exact q)
  have h2 := Int32.toInt_lt x
  have h3 := un_lt x
  have h4 : x.toInt = x.toBitVec.toInt := rfl
  rw [BitVec.toInt_eq_toNat_cond] at h4
  unfold un at h3 ⊢
  split at h4 <;> omega
theorem un_neg {x : Int32} (h : x < iI 0) : 2147483648 ≤ un x := by
  have h1 : x.toInt < 0 := by rw [Int32.lt_iff_toInt_lt, iI_toInt (by omega) (by omega)] at h; exact h
  have h3 := un_lt x
  have h4 : x.toInt = x.toBitVec.toInt := rfl
  rw [BitVec.toInt_eq_toNat_cond] at h4
  unfold un at h3 ⊢
  split at h4 <;> omega
theorem shrN {s k : Nat} (hs : s < 2147483648) (hk : k < 32) : iI (s : Int) >>> (iI (k : Int) &&& iI 31) = iI ((s / 2 ^ k : Nat) : Int) := by
  have h := pk_shrN (n := s) hs (iI (k : Int) &&& iI 31) k (shk k hk)
  have e1 : nI s = iI (s : Int) := iI_nat s
  have e2 : nI (s / 2 ^ k) = iI ((s / 2 ^ k : Nat) : Int) := iI_nat _
  rw [← e1, h, e2]
theorem and1 {s : Nat} (hs : s < 2147483648) : iI (s : Int) &&& iI 1 = iI ((s % 2 : Nat) : Int) := by
  have h := pk_and (iI (s : Int)) (m := iI 1) 1 rfl
  have e1 : (iI (s : Int)).toBitVec.toNat = s := un_iI (by omega)
  rw [h, e1]
  exact iI_nat _
theorem m_bit {x : Int32} {k : Nat} (hx : un x < 2147483648) (hk : k < 32) : (x >>> (iI (k : Int) &&& iI 31) &&& iI 1) = iI ((un x / 2 ^ k % 2 : Nat) : Int) := by
  have h1 : un x / 2 ^ k ≤ un x := Nat.div_le_self _ _
  conv => lhs; rw [un_of hx]
  rw [shrN hx hk, and1 (by omega)]
theorem m_bt {x : Int32} {k : Nat} (hx : un x < 2147483648) (hk : k < 32) : ((x >>> (iI (k : Int) &&& iI 31) &&& iI 1) = iI 1) ↔ bt (un x) k := by
  rw [m_bit hx hk, iI_eq (by omega) (by omega)]
  unfold bt
  omega
theorem byteS (x : Int32) {i : Nat} (hi : i < 4) : (x >>> (iI ((24 - 8 * i : Nat) : Int) &&& iI 31)) &&& iI 255 = iI (byW x i) := by
  have h := pk_and (x >>> (iI ((24 - 8 * i : Nat) : Int) &&& iI 31)) (m := iI 255) 8 rfl
  have e : (x >>> (iI ((24 - 8 * i : Nat) : Int) &&& iI 31)).toBitVec.toNat % 2 ^ 8 = byW x i := by
    have h1 := pk_shr x (iI ((24 - 8 * i : Nat) : Int) &&& iI 31) (24 - 8 * i) (shk (24 - 8 * i) (by omega))
    generalize x >>> (iI ((24 - 8 * i : Nat) : Int) &&& iI 31) = y at h1 ⊢
    have h2 : y.toInt = y.toBitVec.toInt := rfl
    have h3 : x.toInt = x.toBitVec.toInt := rfl
    have l1 := un_lt x
    have l2 := un_lt y
    rw [BitVec.toInt_eq_toNat_cond] at h2 h3
    unfold byW
    unfold un at l1 l2 ⊢
    generalize x.toBitVec.toNat = u at *
    generalize y.toBitVec.toNat = v at *
    rw [Int.shiftRight_eq_div_pow] at h1
    generalize x.toInt = X at *
    generalize y.toInt = Y at *
    rcases (show i = 0 ∨ i = 1 ∨ i = 2 ∨ i = 3 by omega) with rfl | rfl | rfl | rfl <;> (simp only [Nat.reduceMul, Nat.reduceSub, Nat.reducePow] at h1 ⊢; split at h2 <;> split at h3 <;> omega)
  rw [h, e]
  exact iI_nat _
section X53
variable {M n : Nat} {σ : Sg} {A : AS} {f : Nat → Int} {e : Nat → Int → Int}
theorem m_isSet (hS : Msh M σ) (h : MH A f e) (hA : Wf A) (x : Int32) : mX10_isSet n (MW M σ f e) M x = some (bI (un x < 2 ^ fn A), MW M σ f e) := by
  have W := mAll hS
  have h20 := hA.2.2.2.1.1
  have hp : 2 ^ fn A ≤ 2 ^ 20 := Nat.pow_le_pow_right (by omega) h20
  unfold mX10_isSet
  simp only [W, Option.bind_some, iL, h.2.2.2.1.1]
  by_cases c : x < iI 0
  · rw [if_pos c, bI_f]
    have := un_neg c
    omega
  · rw [if_neg c]
    have hx := un_pos c
    have e1 : x >>> (iI (fn A : Int) &&& iI 31) = iI ((un x / 2 ^ fn A : Nat) : Int) := by
      conv => lhs; rw [un_of hx]
      exact shrN hx (by omega)
    have h1 : un x / 2 ^ fn A ≤ un x := Nat.div_le_self _ _
    rw [e1]
    by_cases c2 : un x < 2 ^ fn A
    · rw [if_pos (by rw [Nat.div_eq_of_lt c2]; rfl), bI_t c2]
    · have h2 := Nat.div_pos (Nat.le_of_not_lt c2) (Nat.two_pow_pos (fn A))
      rw [if_neg (fun q => by rw [iI_eq (by omega) (by omega)] at q; omega), bI_f c2]
theorem set20 (hA : Wf A) {x : Int32} (h : un x < 2 ^ fn A) : un x < 1048576 := by
  have hp : 2 ^ fn A ≤ 2 ^ 20 := Nat.pow_le_pow_right (by omega) hA.2.2.2.1.1
  omega
theorem m_holds (hS : Msh M σ) (h : MH A f e) (hA : Wf A) {k : Nat} (hk : k < fn A) (hn : 100000 ≤ n) : mX10_holds n (MW M σ f e) M (iI k) = some (bI (hld A k), MW M σ f e) := by
  have W := mAll hS
  have h8 := hA.2.2.1.1
  have h20 := hA.2.2.2.1.1
  have hd := hA.1
  obtain ⟨-, a, a1, a2, a3, a4, a5, hq⟩ := h.2.2.2.1.2 k hk
  have ta := (h.2.2.1.2 a a1).2.2.2.1
  have ra := (hA.2.2.1.2 a a1).2.2.2.2.1
  have sa : stA A (a + 1) = wtold (wk A a) := by unfold stA; rw [if_pos (by omega)]; rfl
  have s0 : stA A 0 = 0 := by unfold stA; rw [if_neg (by omega)]
  unfold mX10_holds
  simp (disch := omega) only [W, Option.bind_some, a2]
  rcases hq with ⟨k1, ⟨b, b1, b2, b3, b4, b5, b6, b7⟩, b8⟩ | ⟨k1, b4, b7, b8⟩ | ⟨k1, b4, b7, b8⟩ | ⟨k1, b4, b7, b8, b9, b10⟩ | ⟨k1, ⟨b, b1, b2, b3, b4⟩, b7, b8⟩
  · have tb' := (h.2.2.1.2 b b1).2.2.2.1
    have rb := (hA.2.2.1.2 b b1).2.2.2.2.1
    have sb : stA A (b + 1) = wtold (wk A b) := by unfold stA; rw [if_pos (by omega)]; rfl
    obtain ⟨c, hc⟩ : ∃ c : Nat, e 13 k = c := ⟨(e 13 k).toNat, by omega⟩
    have ma := mad_R A (hA.2.2.1.2 a a1) (e 13 k)
    have mb := mad_R A (hA.2.2.1.2 b b1) (e 13 k)
    rw [hc] at ma mb b7
    simp (disch := omega) only [k1, iL, iI_eq, if_true, W, Option.bind_some, ta, hc, m_made hS h hA a1 (show c < 256 by omega) hn, m_made hS h hA b1 (show c < 256 by omega) hn, b3, tb', iI_add, iI_le]
    unfold hld
    rw [a3, b4, b7, b8, sa, sb]
    by_cases q : (wtold (wk A a) : Int) + mad (wk A a) c ≤ wtold (wk A b) + mad (wk A b) c
    · rw [if_pos q, bI_f (by omega)]
    · rw [if_neg q, bI_t (by omega)]
  · simp (disch := omega) only [k1, iL, iI_eq, W, Option.bind_some, ta, iI_le, if_true]
    rw [if_neg (by omega)]
    unfold hld
    rw [a3, b4, b7, b8, sa, s0]
    by_cases q : (wtold (wk A a) : Int) ≤ e 13 k
    · rw [if_pos q, bI_f (by omega)]
    · rw [if_neg q, bI_t (by omega)]
  · simp (disch := omega) only [k1, iL, iI_eq, W, Option.bind_some, ta, iI_lt, if_true]
    rw [if_neg (by omega), if_neg (by omega)]
    unfold hld
    rw [a3, b4, b7, b8, sa, s0]
    by_cases q : e 13 k < (wtold (wk A a) : Int)
    · rw [if_pos q, bI_f (by omega)]
    · rw [if_neg q, bI_t (by omega)]
  · simp (disch := omega) only [k1, iL, iI_eq, W, Option.bind_some, ta, if_true, m_in, bI_01]
    rw [if_neg (by omega), if_neg (by omega), if_neg (by omega)]
    unfold hld
    rw [a3, b4, b7, b8, sa, s0]
    rw [bI_iff (show (e 13 k ≤ (wtold (wk A a) : Int) ∧ (wtold (wk A a) : Int) ≤ e 14 k) ↔ (e 13 k ≤ (wtold (wk A a) : Int) - 0 ∧ (wtold (wk A a) : Int) - 0 ≤ e 14 k) by omega)]
  · have tb' := (h.2.2.1.2 b b1).2.2.2.1
    have rb := (hA.2.2.1.2 b b1).2.2.2.2.1
    have sb : stA A (b + 1) = wtold (wk A b) := by unfold stA; rw [if_pos (by omega)]; rfl
    simp (disch := omega) only [k1, iL, iI_eq, W, Option.bind_some, ta, b3, tb', iI_add, iI_lt, if_true]
    rw [if_neg (by omega), if_neg (by omega), if_neg (by omega), if_neg (by omega)]
    unfold hld
    rw [a3, b4, b7, b8, sa, sb]
    by_cases q : (wtold (wk A a) : Int) < wtold (wk A b) + e 13 k
    · rw [if_pos q, bI_f (by omega)]
    · rw [if_neg q, bI_t (by omega)]
theorem m_judge (hS : Msh M σ) (h : MH A f e) (hA : Wf A) (x : Int32) (hn : 100000 ≤ n) : ∃ r, mX10_judge n (MW M σ f e) M x = some (iI r, MW M σ f e) ∧ Two (un x < 2 ^ fn A) (-1) (Judge A x) r := by
  have W := mAll hS
  have h20 := hA.2.2.2.1.1
  unfold mX10_judge
  simp only [W, Option.bind_some, m_isSet hS h hA x, iL, bI_0, iI_neg]
  by_cases c : un x < 2 ^ fn A
  · rw [if_neg (fun q => q c)]
    have hx := set20 hA c
    have key := loop_inv (body := mX10_judge_L12 n M x) (fun c => ∃ t : Nat, t ≤ fn A ∧ c = (MW M σ f e, iI (t : Int)) ∧ ∀ g, g < t → bt (un x) g → hld A g) (fun c => fn A - c.2.toNatClampNeg)
      (fun r => (r = .inl (MW M σ f e) ∧ ∀ g, g < fn A → bt (un x) g → hld A g) ∨ ∃ k : Nat, k < fn A ∧ bt (un x) k ∧ ¬ hld A k ∧ (∀ g, g < k → bt (un x) g → hld A g) ∧ r = .inr (iI k, MW M σ f e)) ?_ n (MW M σ f e, iI 0) ⟨0, by omega, rfl, fun g hg => by omega⟩ (by omega)
    · obtain ⟨r, hr, hq⟩ := key
      simp only [hr, Option.bind_some]
      rcases hq with ⟨rfl, hq⟩ | ⟨k, k1, k2, k3, k4, rfl⟩
      · exact ⟨-1, rfl, Or.inr ⟨c, Or.inr ⟨hq, rfl⟩⟩⟩
      · exact ⟨k, rfl, Or.inr ⟨c, Or.inl ⟨k, k1, k2, k3, k4, rfl⟩⟩⟩
    · rintro _ ⟨t, t1, rfl, t2⟩
      by_cases ct : t = fn A
      · refine Or.inr ⟨_, ?_, Or.inl ⟨rfl, by rw [← ct]; exact t2⟩⟩
        simp (disch := omega) only [mX10_judge_L12, W, Option.bind_some, h.2.2.2.1.1, iI_le]
        rw [if_pos (by omega)]
      · have z0 : (iI (t : Int)).toNatClampNeg = t := by rw [iI_clamp (by omega) (by omega)]; omega
        have z1 : (iI ((t : Int) + 1)).toNatClampNeg = t + 1 := by rw [iI_clamp (by omega) (by omega)]; omega
        have hm : fn A - (iI ((t : Int) + 1)).toNatClampNeg < fn A - (iI (t : Int)).toNatClampNeg := by omega
        simp (disch := omega) only [mX10_judge_L12, W, Option.bind_some, h.2.2.2.1.1, iI_le, iL, m_bt, m_holds hS h hA (show t < fn A by omega) hn, bI_0, mX10_judge_39, iI_add]
        rw [if_neg (by omega)]
        by_cases c2 : bt (un x) t
        · rw [if_pos c2]
          by_cases c3 : hld A t
          · rw [if_neg (fun q => q c3)]
            refine Or.inl ⟨_, rfl, ⟨t + 1, by omega, rfl, fun g hg hb => ?_⟩, hm⟩
            by_cases cg : g = t
            · rw [cg]; exact c3
            · exact t2 g (by omega) hb
          · rw [if_pos c3]
            exact Or.inr ⟨_, rfl, Or.inr ⟨t, by omega, c2, c3, t2, rfl⟩⟩
        · rw [if_neg c2]
          refine Or.inl ⟨_, rfl, ⟨t + 1, by omega, rfl, fun g hg hb => ?_⟩, hm⟩
          by_cases cg : g = t
          · rw [cg] at hb; exact absurd hb c2
          · exact t2 g (by omega) hb
  · rw [if_pos c]
    exact ⟨-1, rfl, Or.inl ⟨c, rfl⟩⟩
end X53
