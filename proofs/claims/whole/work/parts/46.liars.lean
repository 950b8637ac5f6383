/-! ===== liars ===== -/
def befI (x y : Int32) : Bool := if bcI x - bcI y < 0 then true else if bcI x - bcI y = 0 then (if (x &&& ((x ^^^ y) &&& (-(x ^^^ y)))) = 0 then false else true) else false
/-- the place of a set of persons: fewer first, then by the lowest person that is not in both -/
def rk6 (p : Nat) : Nat := (p % 2 + p / 2 % 2 + p / 4 % 2 + p / 8 % 2 + p / 16 % 2 + p / 32 % 2) * 64 + (63 - (p % 2 * 32 + p / 2 % 2 * 16 + p / 4 % 2 * 8 + p / 8 % 2 * 4 + p / 16 % 2 * 2 + p / 32 % 2))
set_option maxRecDepth 100000 in
theorem bef_rk : ∀ p : Nat, p < 64 → ∀ q : Nat, q < 64 → befI (iI p) (iI q) = decide (rk6 p < rk6 q) := by decide +kernel
set_option maxRecDepth 100000 in
theorem rk6_inj : ∀ p : Nat, p < 64 → ∀ q : Nat, q < 64 → rk6 p = rk6 q → p = q := by decide +kernel
set_option maxRecDepth 100000 in
theorem rk6_sub : ∀ p : Nat, p < 64 → ∀ q : Nat, q < 64 → rk6 (p &&& q) ≤ rk6 p := by decide +kernel
set_option maxRecDepth 100000 in
theorem sub6 : ∀ p : Nat, p < 64 → ∀ q : Nat, q < 64 → ((iI p &&& (iI q ^^^ (-1 : Int32))) = 0 ↔ p &&& q = p) := by decide +kernel
theorem un_m1 : un (-1) = 2 ^ 32 - 1 := rfl
theorem bt_not (y : Int32) {j : Nat} (hj : j < 32) : bt (un (y ^^^ (-1 : Int32))) j ↔ ¬ bt (un y) j := by
  rw [bt_iff, bt_iff]
  have : un (y ^^^ (-1 : Int32)) = un y ^^^ un (-1) := by
    unfold un
    rw [Int32.toBitVec_xor, BitVec.toNat_xor]
  rw [this, Nat.testBit_xor, un_m1, Nat.testBit_two_pow_sub_one]
  cases (un y).testBit j <;> simp [hj]
theorem bt_and (s t j : Nat) : bt (s &&& t) j ↔ bt s j ∧ bt t j := by
  rw [bt_iff, bt_iff, bt_iff, Nat.testBit_and]
  simp
section X46
variable {B n : Nat} {wa : Nat → Nat} {σ : Sg} {A : AS}
theorem can_congr {S T m : Nat} (h : ∀ f, f < m → (bt S f ↔ bt T f)) : can A S m ↔ can A T m := by
  constructor
  · rintro ⟨Y, hY⟩
    refine ⟨Y, hY.mono (fun i j v _ _ hr => ?_)⟩
    rcases hr with hr | ⟨f, hf, hb, hr⟩
    · exact Or.inl hr
    · exact Or.inr ⟨f, hf, (h f hf).mpr hb, hr⟩
  · rintro ⟨Y, hY⟩
    refine ⟨Y, hY.mono (fun i j v _ _ hr => ?_)⟩
    rcases hr with hr | ⟨f, hf, hb, hr⟩
    · exact Or.inl hr
    · exact Or.inr ⟨f, hf, (h f hf).mp hb, hr⟩
theorem can_sub {S T m : Nat} (h : ∀ f, f < m → bt T f → bt S f) (hc : can A S m) : can A T m := by
  obtain ⟨Y, hY⟩ := hc
  refine ⟨Y, hY.mono (fun i j v _ _ hr => ?_)⟩
  rcases hr with hr | ⟨f, hf, hb, hr⟩
  · exact Or.inl hr
  · exact Or.inr ⟨f, hf, h f hf hb, hr⟩
/-- a set without the words of some persons -/
def rem (A : AS) (S P : Nat) : Nat := bsm (fun f => decide (bt S f ∧ ¬ ((fc A f).1 ≠ -1 ∧ bt P (fc A f).1.toNat))) (fn A)
theorem bt_rem (A : AS) (S P f : Nat) (hf : f < fn A) : bt (rem A S P) f ↔ bt S f ∧ ¬ ((fc A f).1 ≠ -1 ∧ bt P (fc A f).1.toNat) := by
  unfold rem
  rw [bsm_bit]
  simp only [decide_eq_true_eq]
  exact ⟨fun h => h.2, fun h => ⟨hf, h⟩⟩
def fea (A : AS) (S P : Nat) : Prop := can A (rem A S P) (fn A)
theorem x_without (h : RC B wa σ A) (hA : Wf A) (x p : Int32) (hn : 100000 ≤ n) : ∃ y, mX9_withoutWords n σ B x p = some (y, σ) ∧ (can A (un y) (fn A) ↔ fea A (un x) (un p)) := by
  have hf20 := hA.2.2.2.1.1
  have key := loop_inv (body := mX9_withoutWords_L5 n B p) (fun c => ∃ (t : Nat) (y : Int32), t ≤ fn A ∧ c = (σ, y, iI t) ∧ ∀ f, f < fn A → (bt (un y) f ↔ bt (un x) f ∧ ¬ (f < t ∧ (fc A f).1 ≠ -1 ∧ bt (un p) (fc A f).1.toNat))) (fun c => fn A - c.2.2.toNatClampNeg)
    (fun e => ∃ y, e = (σ, y) ∧ ∀ f, f < fn A → (bt (un y) f ↔ bt (un x) f ∧ ¬ ((fc A f).1 ≠ -1 ∧ bt (un p) (fc A f).1.toNat))) ?_ n (σ, x, (0 : Int32)) ⟨0, x, by omega, rfl, fun f _ => ⟨fun q => ⟨q, fun z => by omega⟩, fun q => q.1⟩⟩ (by show fn A - _ < n; omega)
  · obtain ⟨e, q1, y, rfl, q2⟩ := key
    refine ⟨y, ?_, can_congr (fun f hf => (q2 f hf).trans (bt_rem A (un x) (un p) f hf).symm)⟩
    unfold mX9_withoutWords
    simp only [h.o, Option.bind_some, q1]
  · rintro c ⟨t, y, ht, rfl, hy⟩
    have hz : (iI (t : Int)).toNatClampNeg = t := by rw [iI_clamp (by omega) (by omega)]; omega
    have hz1 : (iI ((t + 1 : Nat) : Int)).toNatClampNeg = t + 1 := by rw [iI_clamp (by omega) (by omega)]; omega
    have rt : RI (t : Int) := RI.sm (by omega) (by omega)
    by_cases c0 : t = fn A
    · refine Or.inr ⟨(σ, y), ?_, y, rfl, fun f hf => (hy f hf).trans ⟨fun q => ⟨q.1, fun z => q.2 ⟨by omega, z⟩⟩, fun q => ⟨q.1, fun z => q.2 z.2⟩⟩⟩
      simp only [mX9_withoutWords_L5, h.qfn, Option.bind_some]
      rw [if_pos ((c_le (RI.sm (by omega) (by omega)) rt).mpr (by omega))]
    · have hF := h.factAt (k := t) (by omega)
      have hW := hA.2.2.2.1.2 t (by omega)
      have w1 := hW.1
      have w2 := hW.2.1
      have down : fn A - (iI ((t + 1 : Nat) : Int)).toNatClampNeg < fn A - (iI (t : Int)).toNatClampNeg := by rw [hz, hz1]; omega
      have rw' : RI (fc A t).1 := RI.sm (by omega) (by omega)
      have stay : (¬ ((fc A t).1 ≠ -1 ∧ bt (un p) (fc A t).1.toNat)) → ∀ f, f < fn A → (bt (un y) f ↔ bt (un x) f ∧ ¬ (f < t + 1 ∧ (fc A f).1 ≠ -1 ∧ bt (un p) (fc A f).1.toNat)) := fun q f hf => by
        rw [hy f hf]
        constructor
        · rintro ⟨a, b⟩
          refine ⟨a, fun z => ?_⟩
          by_cases e : f = t
          · rw [e] at z; exact q z.2
          · exact b ⟨by omega, z.2⟩
        · rintro ⟨a, b⟩
          exact ⟨a, fun z => b ⟨by omega, z.2⟩⟩
      have base : mX9_withoutWords_L5 n B p (σ, y, iI t) = if iI (fc A t).1 = (-1 : Int32) then mX9_withoutWords_54 n σ B p y (iI t) else (mX9_isIn n σ p (iI (fc A t).1)).bind fun (v11, s10) => if v11 = 0 then mX9_withoutWords_54 n s10 B p y (iI t) else mX9_withoutWords_54 n s10 B p (y &&& (((1 : Int32) <<< (iI t &&& 31)) ^^^ (-1 : Int32))) (iI t) := by
        simp only [mX9_withoutWords_L5, h.qfn, h.r7, h.fact (show t < 20 by omega), Option.bind_some, gI_ok hF.1 (show 0 < 5 by omega) hF.2.1, nm]
        rw [if_neg (fun q => by have := (c_le (RI.sm (by omega) (by omega)) rt).mp q; omega)]
      rw [base]
      by_cases c1 : (fc A t).1 = -1
      · rw [if_pos ((c_eqm rw').mpr c1)]
        exact Or.inl ⟨(σ, y, iI ((t + 1 : Nat) : Int)), by simp only [mX9_withoutWords_54, pt1], ⟨t + 1, y, by omega, rfl, stay (fun q => q.1 c1)⟩, down⟩
      · rw [if_neg (fun q => c1 ((c_eqm rw').mp q))]
        have ew : (fc A t).1 = ((fc A t).1.toNat : Int) := by omega
        have hin := x_isIn (n := n) (σ := σ) p (k := (fc A t).1.toNat) (by omega)
        rw [← ew] at hin
        simp only [hin, Option.bind_some]
        by_cases c2 : bt (un p) (fc A t).1.toNat
        · rw [if_pos c2, if_neg i10]
          refine Or.inl ⟨(σ, y &&& (((1 : Int32) <<< (iI t &&& 31)) ^^^ (-1 : Int32)), iI ((t + 1 : Nat) : Int)), by simp only [mX9_withoutWords_54, pt1], ⟨t + 1, _, by omega, rfl, fun f hf => ?_⟩, down⟩
          rw [un_and, bt_and, bt_not _ (show f < 32 by omega), un_shl (show t < 32 by omega), hy f hf]
          have hb : bt (2 ^ t) f ↔ f = t := by
            rw [bt_iff, Nat.testBit_two_pow]
            simp only [decide_eq_true_eq]
            exact ⟨fun e => e.symm, fun e => e.symm⟩
          rw [hb]
          constructor
          · rintro ⟨⟨a, b⟩, c⟩
            exact ⟨a, fun z => b ⟨by omega, z.2⟩⟩
          · rintro ⟨a, b⟩
            refine ⟨⟨a, fun z => b ⟨by omega, z.2⟩⟩, fun e => b ?_⟩
            rw [e]
            exact ⟨by omega, c1, c2⟩
        · rw [if_neg c2, if_pos i00]
          exact Or.inl ⟨(σ, y, iI ((t + 1 : Nat) : Int)), by simp only [mX9_withoutWords_54, pt1], ⟨t + 1, y, by omega, rfl, stay (fun q => c2 q.2)⟩, down⟩
/-- the persons whose words are in a set -/
def Spk (A : AS) (S P : Nat) : Prop := P < 64 ∧ ∀ w, bt P w ↔ ∃ f, f < fn A ∧ bt S f ∧ (fc A f).1 = w
theorem x_speakers (h : RC B wa σ A) (hA : Wf A) (x : Int32) (hn : 100000 ≤ n) : ∃ p : Nat, mX9_speakersOf n σ B x = some (iI p, σ) ∧ Spk A (un x) p := by
  have hf20 := hA.2.2.2.1.1
  have key := loop_inv (body := mX9_speakersOf_L4 n B x) (fun c => ∃ (t p : Nat), t ≤ fn A ∧ c = (σ, iI p, iI t) ∧ p < 64 ∧ ∀ w, bt p w ↔ ∃ f, f < t ∧ bt (un x) f ∧ (fc A f).1 = w) (fun c => fn A - c.2.2.toNatClampNeg)
    (fun e => ∃ p : Nat, e = (σ, iI p) ∧ Spk A (un x) p) ?_ n (σ, (0 : Int32), (0 : Int32)) ⟨0, 0, by omega, rfl, by omega, fun w => ⟨fun q => absurd q (bt_big (s := 0) (k := 0) (by omega) (by omega)), fun ⟨f, q, _⟩ => by omega⟩⟩ (by show fn A - _ < n; omega)
  · obtain ⟨e, q1, p, rfl, q2⟩ := key
    refine ⟨p, ?_, q2⟩
    unfold mX9_speakersOf
    simp only [h.o, Option.bind_some, q1]
  · rintro c ⟨t, p, ht, rfl, hp, hb⟩
    have hz : (iI (t : Int)).toNatClampNeg = t := by rw [iI_clamp (by omega) (by omega)]; omega
    have hz1 : (iI ((t + 1 : Nat) : Int)).toNatClampNeg = t + 1 := by rw [iI_clamp (by omega) (by omega)]; omega
    have rt : RI (t : Int) := RI.sm (by omega) (by omega)
    by_cases c0 : t = fn A
    · refine Or.inr ⟨(σ, iI p), ?_, p, rfl, hp, by rw [← c0]; exact hb⟩
      simp only [mX9_speakersOf_L4, h.qfn, Option.bind_some]
      rw [if_pos ((c_le (RI.sm (by omega) (by omega)) rt).mpr (by omega))]
    · have hF := h.factAt (k := t) (by omega)
      have hW := hA.2.2.2.1.2 t (by omega)
      have w1 := hW.1
      have w2 := hW.2.1
      have down : fn A - (iI ((t + 1 : Nat) : Int)).toNatClampNeg < fn A - (iI (t : Int)).toNatClampNeg := by rw [hz, hz1]; omega
      have rw' : RI (fc A t).1 := RI.sm (by omega) (by omega)
      have stay : (¬ (bt (un x) t ∧ (fc A t).1 ≠ -1)) → ∀ w : Nat, bt p w ↔ ∃ f, f < t + 1 ∧ bt (un x) f ∧ (fc A f).1 = w := fun q w => by
        rw [hb w]
        constructor
        · rintro ⟨f, a, b⟩
          exact ⟨f, by omega, b⟩
        · rintro ⟨f, a, b, c⟩
          refine ⟨f, ?_, b, c⟩
          by_cases e : f = t
          · rw [e] at b c
            exact absurd ⟨b, by omega⟩ q
          · omega
      have base : mX9_speakersOf_L4 n B x (σ, iI p, iI t) = if bt (un x) t then (if iI (fc A t).1 = (-1 : Int32) then mX9_speakersOf_47 n σ B x (iI p) (iI t) else mX9_speakersOf_47 n σ B x (iI p ||| ((1 : Int32) <<< (iI (fc A t).1 &&& 31))) (iI t)) else mX9_speakersOf_47 n σ B x (iI p) (iI t) := by
        simp only [mX9_speakersOf_L4, h.qfn, Option.bind_some, x_isIn x (show t < 32 by omega)]
        rw [if_neg (fun q => by have := (c_le (RI.sm (by omega) (by omega)) rt).mp q; omega)]
        by_cases cb : bt (un x) t
        · rw [if_pos cb, if_pos cb, if_neg i10]
          simp only [h.r7, h.fact (show t < 20 by omega), Option.bind_some, gI_ok hF.1 (show 0 < 5 by omega) hF.2.1, nm]
        · rw [if_neg cb, if_neg cb, if_pos i00]
      rw [base]
      by_cases cb : bt (un x) t
      · rw [if_pos cb]
        by_cases c1 : (fc A t).1 = -1
        · rw [if_pos ((c_eqm rw').mpr c1)]
          exact Or.inl ⟨(σ, iI p, iI ((t + 1 : Nat) : Int)), by simp only [mX9_speakersOf_47, pt1], ⟨t + 1, p, by omega, rfl, hp, stay (fun q => q.2 c1)⟩, down⟩
        · rw [if_neg (fun q => c1 ((c_eqm rw').mp q))]
          have ew : (fc A t).1 = ((fc A t).1.toNat : Int) := by omega
          generalize hk : (fc A t).1.toNat = k at ew
          have e2 : iI p ||| ((1 : Int32) <<< (iI (fc A t).1 &&& 31)) = iI ((p ||| 2 ^ k : Nat) : Int) := by
            apply un_inj
            have lt : p ||| 2 ^ k < 2 ^ 6 := Nat.or_lt_two_pow (by omega) (Nat.pow_lt_pow_right (by omega) (by omega))
            rw [ew, un_orb _ (by omega), un_iI (by omega), un_iI (by omega)]
          have lt : p ||| 2 ^ k < 64 := Nat.or_lt_two_pow (n := 6) (by omega) (Nat.pow_lt_pow_right (by omega) (by omega))
          rw [e2]
          refine Or.inl ⟨(σ, iI ((p ||| 2 ^ k : Nat) : Int), iI ((t + 1 : Nat) : Int)), by simp only [mX9_speakersOf_47, pt1], ⟨t + 1, p ||| 2 ^ k, by omega, rfl, lt, fun w => ?_⟩, down⟩
          rw [bt_or, hb w]
          constructor
          · rintro (⟨f, a, b⟩ | e)
            · exact ⟨f, by omega, b⟩
            · exact ⟨t, by omega, cb, by omega⟩
          · rintro ⟨f, a, b, c⟩
            by_cases e : f = t
            · rw [e] at c
              right; omega
            · exact Or.inl ⟨f, by omega, b, c⟩
      · rw [if_neg cb]
        exact Or.inl ⟨(σ, iI p, iI ((t + 1 : Nat) : Int)), by simp only [mX9_speakersOf_47, pt1], ⟨t + 1, p, by omega, rfl, hp, stay (fun q => cb q.1)⟩, down⟩
/-- the net drawn: -1 or not -/
theorem x_draws (h : St B wa σ A) (x : Int32) (hn : 100000 ≤ n) : ∃ r σ', mX9_drawNet n σ B x = some (r, σ') ∧ St B wa σ' A ∧ Fr B σ σ' ∧ (r = -1 ↔ can A (un x) (fn A)) := by
  obtain ⟨hC, hS, hA⟩ := id h
  obtain ⟨⟨p, e, hp, hN, hB⟩, -⟩ := hS
  obtain ⟨d, hd, hq⟩ := x_drawNet (n := n) hC hA hN hB x hn
  have hf := hA.2.2.2.1.1
  rcases hq with ⟨q1, q2⟩ | ⟨m, m1, m2, q1, q2, q3⟩
  · exact ⟨_, _, q1, h.dn hd, dn_fr d, ⟨fun _ => ⟨_, q2.1.1⟩, fun _ => rfl⟩⟩
  · refine ⟨_, _, q1, h.dn hd, dn_fr d, ⟨fun q => ?_, fun q => absurd (can_mono (by omega) q) q3⟩⟩
    have := (c_eqm (RI.sm (by omega) (by omega))).mp q
    omega
/-- whose words must be false -/
def Liar (A : AS) (S : Nat) (r : Int) : Prop := ((can A S (fn A) ∨ ¬ fea A S 63) ∧ r = -1) ∨ (¬ can A S (fn A) ∧ ∃ p, 1 ≤ p ∧ p < 64 ∧ fea A S p ∧ (∀ q, 1 ≤ q → q < 64 → fea A S q → rk6 p ≤ rk6 q) ∧ r = p)
theorem fea_congr {S P Q : Nat} (h : ∀ f, f < fn A → bt S f → (fc A f).1 ≠ -1 → (bt P (fc A f).1.toNat ↔ bt Q (fc A f).1.toNat)) : fea A S P ↔ fea A S Q := by
  refine can_congr (fun f hf => ?_)
  rw [bt_rem A S P f hf, bt_rem A S Q f hf]
  constructor
  · rintro ⟨a, b⟩
    exact ⟨a, fun z => b ⟨z.1, (h f hf a z.1).mpr z.2⟩⟩
  · rintro ⟨a, b⟩
    exact ⟨a, fun z => b ⟨z.1, (h f hf a z.1).mp z.2⟩⟩
theorem bt63 : ∀ w : Nat, w < 6 → bt 63 w := by decide
theorem fea_mono {S P : Nat} (hA : Wf A) (hc : fea A S P) : fea A S 63 := by
  refine can_sub (fun f hf q => ?_) hc
  have hW := hA.2.2.2.1.2 f hf
  rw [bt_rem A S 63 f hf] at q
  rw [bt_rem A S P f hf]
  exact ⟨q.1, fun z => q.2 ⟨z.1, bt63 _ (by have := hW.1; have := hW.2.1; omega)⟩⟩
theorem fea_0 {S : Nat} : fea A S 0 ↔ can A S (fn A) := by
  refine can_congr (fun f hf => ?_)
  rw [bt_rem A S 0 f hf]
  exact ⟨fun q => q.1, fun q => ⟨q, fun z => absurd z.2 (bt_big (s := 0) (k := 0) (by omega) (by omega))⟩⟩
theorem Liar.unique {S : Nat} {r r' : Int} (hA : Wf A) (h : Liar A S r) (h' : Liar A S r') : r = r' := by
  rcases h with ⟨a, b⟩ | ⟨a, p, p1, p2, p3, p4, b⟩ <;> rcases h' with ⟨c, d⟩ | ⟨c, q, q1, q2, q3, q4, d⟩
  · omega
  · rcases a with a | a
    · exact absurd a c
    · exact absurd (fea_mono hA q3) a
  · rcases c with c | c
    · exact absurd c a
    · exact absurd (fea_mono hA p3) c
  · have e1 := p4 q q1 q2 q3
    have e2 := q4 p p1 p2 p3
    have := rk6_inj p p2 q q2 (by omega)
    omega
theorem x_blamed (x y : Int32) : mX9_isBlamedBefore n σ x y = some (if befI x y = true then 1 else 0, σ) := by
  unfold mX9_isBlamedBefore befI
  simp only [j_bitCount, Option.bind_some, nm, mX9_isBlamedBefore_35]
  by_cases c0 : bcI x - bcI y < 0
  · rw [if_pos c0, if_pos c0]; rfl
  · rw [if_neg c0, if_neg c0]
    by_cases c1 : bcI x - bcI y = 0
    · rw [if_pos c1, if_pos c1]
      by_cases c2 : (x &&& ((x ^^^ y) &&& (-(x ^^^ y)))) = 0
      · rw [if_pos c2, if_pos c2]; rfl
      · rw [if_neg c2, if_neg c2]; rfl
    · rw [if_neg c1, if_neg c1]; rfl
end X46
