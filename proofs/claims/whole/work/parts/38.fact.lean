/-! ===== fact, words, judge, count, start, snow ===== -/
section X38
variable {B n : Nat} {wa : Nat → Nat} {σ : Sg} {A : AS}
theorem i10 : ¬ (1 : Int32) = 0 := by decide
theorem i00 : (0 : Int32) = 0 := rfl
theorem pt1 (w : Nat) : iI (w : Int) + (1 : Int32) = iI ((w + 1 : Nat) : Int) := by rw [iI_1, iI_add]; rfl
/-- what a call that may add a fact does -/
def Adds (B : Nat) (wa : Nat → Nat) (σ : Sg) (A : AS) (m : Option (Int32 × Sg)) (o : Option Fc) : Prop := ∃ r A' σ', m = some (iI r, σ') ∧ St B wa σ' A' ∧ Kp B σ σ' ∧ AddQ A o A' r
theorem Adds.no (h : St B wa σ A) : Adds B wa σ A (some ((-1 : Int32), σ)) none := ⟨-1, A, σ, rfl, h, Kp.refl B σ, rfl, rfl⟩
theorem Adds.yes (h : St B wa σ A) (hf : fn A < 20) {q : Fc} (hq : FWf A q) : Adds B wa σ A ((mX9_keep n σ B (iI q.1) (iI q.2.1) (iI q.2.2.1) (iI q.2.2.2.1) (iI q.2.2.2.2)).bind fun (v, s) => some (v, s)) (some q) := by
  obtain ⟨σ', h1, h2, h3⟩ := x_keep (n := n) h hf hq
  exact ⟨fn A, addF A q, σ', by rw [h1]; rfl, h2, h3, rfl, rfl⟩
theorem x_tellAbove (h : St B wa σ A) (hf : fn A < 20) {who a b c : Int} (hw : -1 ≤ who ∧ who ≤ 5) (ha : RI a) (hb : RI b) (hc : RI c) : Adds B wa σ A (mX9_tellAbove n σ B (iI who) (iI a) (iI b) (iI c)) (if crs A a b c then some (who, a.toNat + 1, b.toNat + 1, mad (wk A b.toNat) c - mad (wk A a.toNat) c + 1, 1000000) else none) := by
  obtain ⟨hC, hS, hA⟩ := id h
  have h8 := hA.2.2.1.1
  unfold mX9_tellAbove
  simp only [hC.o, Option.bind_some, x_isCrossing hC hA ha hb hc]
  by_cases c0 : crs A a b c
  · rw [if_pos c0, if_pos c0, if_neg i10]
    obtain ⟨v, v1, v2, v3⟩ := isW.nat c0.2.1.1
    obtain ⟨w, w1, w2, w3⟩ := isW.nat c0.2.2.1
    have m1 := mad_R A (hA.2.2.1.2 v v1) c
    have m2 := mad_R A (hA.2.2.1.2 w w1) c
    have hvw : v ≠ w := fun e => c0.1 (by rw [v2, w2, e])
    have e1 : iI a + (1 : Int32) = iI ((a.toNat + 1 : Nat) : Int) := by rw [v3, v2, pt1]
    have e2 : iI b + (1 : Int32) = iI ((b.toNat + 1 : Nat) : Int) := by rw [w3, w2, pt1]
    simp only [mX9_pointOf, Option.bind_some, x_lead hC hA c0.2.1.1 c0.2.2.1 hc, e1, e2]
    refine Adds.yes (n := n) h hf (q := (who, a.toNat + 1, b.toNat + 1, mad (wk A b.toNat) c - mad (wk A a.toNat) c + 1, 1000000)) ?_
    rw [v3, w3]
    exact ⟨hw.1, hw.2, by show v + 1 ≤ wn A; omega, by show w + 1 ≤ wn A; omega, by show v + 1 ≠ w + 1; omega, by show -1000000 ≤ mad (wk A w) c - mad (wk A v) c + 1; omega, by show mad (wk A w) c - mad (wk A v) c + 1 ≤ 1000000; omega, by show (-1000000 : Int) ≤ 1000000; omega, by show (1000000 : Int) ≤ 1000000; omega, by show mad (wk A w) c - mad (wk A v) c + 1 ≤ 1000000; omega⟩
  · rw [if_neg c0, if_neg c0, if_pos i00]
    exact Adds.no h
theorem x_tellPrint (h : St B wa σ A) (hf : fn A < 20) {who kind a b c : Int} (hw : -1 ≤ who ∧ who ≤ 5) (hk : kind = 1 ∨ kind = 2) (ha : isW A a) (hb : RI b) (hc : RI c) : Adds B wa σ A (mX9_tellPrint n σ B (iI who) (iI kind) (iI a) (iI b) (iI c)) (if lIn (wk A a.toNat) c ≠ -1 ∧ 0 ≤ b ∧ b ≤ 5000 then some (if kind = 1 then (who, a.toNat + 1, 0, b - mad (wk A a.toNat) c + 1, 1000000) else (who, a.toNat + 1, 0, -1000000, b - mad (wk A a.toNat) c)) else none) := by
  obtain ⟨hC, hS, hA⟩ := id h
  have h8 := hA.2.2.1.1
  have ra : RI a := isW.RI hA ha
  obtain ⟨v, v1, v2, v3⟩ := isW.nat ha
  have hW := hC.walkAt v1
  have hL := lIn_R (wk A v) c
  have hl := (hA.2.2.1.2 v v1).2.2.2.1
  have m1 := mad_R A (hA.2.2.1.2 v v1) c
  unfold mX9_tellPrint
  simp only [hC.o, Option.bind_some, x_walkOf hC hA ra, if_pos (show 0 ≤ a ∧ a < wn A from ha), v3, w_latestIn hW hc]
  have hR : RI (lIn (wk A v) c) := RI.sm (by omega) (by omega)
  by_cases c1 : lIn (wk A v) c = -1
  · rw [if_pos ((c_eqm hR).mpr c1), if_neg (fun q => q.1 c1)]
    exact Adds.no h
  · rw [if_neg (fun q => c1 ((c_eqm hR).mp q))]
    simp only [x_isTick hb, Option.bind_some]
    by_cases c2 : 0 ≤ b ∧ b ≤ 5000
    · rw [if_pos c2, if_neg i10, if_pos ⟨c1, c2⟩]
      have e1 : iI a + (1 : Int32) = iI ((v + 1 : Nat) : Int) := by rw [v2, pt1]
      have e0 : (0 : Int32) = iI ((0 : Nat) : Int) := rfl
      simp only [gI_ok hW.1.1 (show 0 < 9 by omega) hW.2.1.1, w_latestIn hW hc, Option.bind_some, iI_mul, iI_sub, iI_1, iI_add, nm, mX9_pointOf]
      have rk : RI kind := by unfold RI; omega
      by_cases k1 : kind = 1
      · rw [if_pos (show iI kind = iI 1 by rw [k1]), if_pos k1]
        have z := Adds.yes (n := n) h hf (q := (who, v + 1, 0, b - mad (wk A v) c + 1, 1000000)) ⟨hw.1, hw.2, by show v + 1 ≤ wn A; omega, by show 0 ≤ wn A; omega, by show v + 1 ≠ 0; omega, by show -1000000 ≤ b - mad (wk A v) c + 1; omega, by show b - mad (wk A v) c + 1 ≤ 1000000; omega, by show (-1000000 : Int) ≤ 1000000; omega, by show (1000000 : Int) ≤ 1000000; omega, by show b - mad (wk A v) c + 1 ≤ 1000000; omega⟩
        rw [v2]; exact z
      · rw [if_neg (show ¬ iI kind = iI 1 from fun q => k1 ((c_eq rk (by unfold RI; omega)).mp q)), if_neg k1]
        have z := Adds.yes (n := n) h hf (q := (who, v + 1, 0, -1000000, b - mad (wk A v) c)) ⟨hw.1, hw.2, by show v + 1 ≤ wn A; omega, by show 0 ≤ wn A; omega, by show v + 1 ≠ 0; omega, by show (-1000000 : Int) ≤ -1000000; omega, by show (-1000000 : Int) ≤ 1000000; omega, by show -1000000 ≤ b - mad (wk A v) c; omega, by show b - mad (wk A v) c ≤ 1000000; omega, by show -1000000 ≤ b - mad (wk A v) c; omega⟩
        rw [v2]; exact z
    · rw [if_neg c2, if_pos i00, if_neg (fun q => c2 q.2)]
      exact Adds.no h
theorem x_tellBegan (h : St B wa σ A) (hf : fn A < 20) {who a x y : Int} (hw : -1 ≤ who ∧ who ≤ 5) (ha : isW A a) (hx : RI x) (hy : RI y) : Adds B wa σ A (mX9_tellBegan n σ B (iI who) (iI a) (iI x) (iI y)) (if 0 ≤ x ∧ y ≤ day A ∧ x ≤ y then some (who, a.toNat + 1, 0, x, y) else none) := by
  obtain ⟨hC, hS, hA⟩ := id h
  have h8 := hA.2.2.1.1
  have hday := hA.1.2.2.2.2
  obtain ⟨v, v1, v2, v3⟩ := isW.nat ha
  unfold mX9_tellBegan
  simp only [hC.o, Option.bind_some, hC.qday]
  by_cases c0 : x < 0
  · rw [if_pos ((c_lt0 hx).mpr c0), if_neg (by omega)]
    exact Adds.no h
  · rw [if_neg (fun q => c0 ((c_lt0 hx).mp q))]
    by_cases c1 : (day A : Int) < y
    · rw [if_pos ((c_lt (RI.sm (by omega) (by omega)) hy).mpr c1), if_neg (by omega)]
      exact Adds.no h
    · rw [if_neg (fun q => c1 ((c_lt (RI.sm (by omega) (by omega)) hy).mp q))]
      by_cases c2 : x ≤ y
      · rw [if_pos ((c_le hx hy).mpr c2), if_pos (by omega)]
        simp only [mX9_pointOf, Option.bind_some, v2, pt1]
        exact Adds.yes (n := n) h hf (q := (who, v + 1, 0, x, y)) ⟨hw.1, hw.2, by show v + 1 ≤ wn A; omega, by show 0 ≤ wn A; omega, by show v + 1 ≠ 0; omega, by show -1000000 ≤ x; omega, by show x ≤ 1000000; omega, by show -1000000 ≤ y; omega, by show y ≤ 1000000; omega, c2⟩
      · rw [if_neg (fun q => c2 ((c_le hx hy).mp q)), if_neg (by omega)]
        exact Adds.no h
theorem x_tellBehind (h : St B wa σ A) (hf : fn A < 20) {who a b x : Int} (hw : -1 ≤ who ∧ who ≤ 5) (ha : isW A a) (hb : RI b) (hx : RI x) : Adds B wa σ A (mX9_tellBehind n σ B (iI who) (iI a) (iI b) (iI x)) (if a ≠ b ∧ isW A b ∧ -5000 ≤ x ∧ x ≤ 5000 then some (who, a.toNat + 1, b.toNat + 1, x, 1000000) else none) := by
  obtain ⟨hC, hS, hA⟩ := id h
  have h8 := hA.2.2.1.1
  have ra : RI a := isW.RI hA ha
  obtain ⟨v, v1, v2, v3⟩ := isW.nat ha
  unfold mX9_tellBehind
  simp only [hC.o, Option.bind_some, x_walkOf hC hA hb]
  by_cases c0 : a = b
  · rw [if_pos (by rw [c0]), if_neg (fun q => q.1 c0)]
    exact Adds.no h
  · rw [if_neg (fun q => c0 ((c_eq ra hb).mp q))]
    by_cases c1 : 0 ≤ b ∧ b < wn A
    · simp only [if_pos c1]
      obtain ⟨w, w1, w2, w3⟩ := isW.nat c1
      have e5 : (-5000 : Int32) = iI (-5000) := rfl
      by_cases c2 : x < -5000
      · rw [if_pos (by rw [e5]; exact (c_lt hx (by unfold RI; omega)).mpr c2), if_neg (by omega)]
        exact Adds.no h
      · rw [if_neg (fun q => c2 ((c_lt hx (by unfold RI; omega)).mp (by rw [e5] at q; exact q)))]
        by_cases c3 : x ≤ 5000
        · rw [if_pos ((c_leL 5000 (by omega) hx).mpr c3), if_pos ⟨c0, c1, by omega, c3⟩]
          simp only [mX9_pointOf, Option.bind_some, v2, w2, pt1]
          exact Adds.yes (n := n) h hf (q := (who, v + 1, w + 1, x, 1000000)) ⟨hw.1, hw.2, by show v + 1 ≤ wn A; omega, by show w + 1 ≤ wn A; omega, by show v + 1 ≠ w + 1; omega, by show -1000000 ≤ x; omega, by show x ≤ 1000000; omega, by show (-1000000 : Int) ≤ 1000000; omega, by show (1000000 : Int) ≤ 1000000; omega, by show x ≤ 1000000; omega⟩
        · rw [if_neg (fun q => c3 ((c_leL 5000 (by omega) hx).mp q)), if_neg (by omega)]
          exact Adds.no h
    · simp only [if_neg c1]
      rw [if_neg (fun q => c1 q.2.1)]
      exact Adds.no h
theorem Adds.fwd {o : Option Fc} {m : Option (Int32 × Sg)} (h : Adds B wa σ A m o) : Adds B wa σ A (m.bind fun (v, s) => some (v, s)) o := by
  obtain ⟨r, A', σ', h1, h2⟩ := h
  exact ⟨r, A', σ', by rw [h1]; rfl, h2⟩
theorem x_fact (h : St B wa σ A) {who kind a b x y : Int} (hw : RI who) (hk : RI kind) (ha : RI a) (hb : RI b) (hx : RI x) (hy : RI y) : Adds B wa σ A (mX9_fact n σ B (iI who) (iI kind) (iI a) (iI b) (iI x) (iI y)) (factOf A who kind a b x y) := by
  obtain ⟨hC, hS, hA⟩ := id h
  have hf := hA.2.2.2.1.1
  have hc := cAt_RI A hA x y
  have rc : RI (cAt A x y) := RI.sm (by omega) (by omega)
  unfold mX9_fact factOf
  simp only [hC.o, Option.bind_some, x_isWho hw]
  by_cases c0 : -1 ≤ who ∧ who ≤ 5
  · rw [if_pos c0, if_neg i10]
    simp only [x_walkOf hC hA ha, Option.bind_some]
    by_cases c1 : 0 ≤ a ∧ a < wn A
    · simp only [if_pos c1, hC.qfn, Option.bind_some]
      by_cases c2 : fn A < 20
      · rw [if_pos ((c_ltL 20 (by omega) (RI.sm (by omega) (by omega))).mpr (by omega)), if_neg (show ¬ (¬ (-1 ≤ who ∧ who ≤ 5) ∨ ¬ isW A a ∨ ¬ fn A < 20) from fun q => q.elim (fun q => q c0) (fun q => q.elim (fun q => q c1) (fun q => q c2)))]
        simp only [x_cellAt hC hA hx hy, Option.bind_some]
        by_cases k0 : kind = 0
        · rw [if_pos ((c_eq0 hk).mpr k0), if_pos k0]
          exact (x_tellAbove h c2 c0 ha hb rc).fwd
        · rw [if_neg (fun q => k0 ((c_eq0 hk).mp q)), if_neg k0]
          by_cases k1 : kind = 1
          · rw [if_pos ((c_eqL 1 (by omega) hk).mpr k1), if_pos k1]
            have := (x_tellPrint (n := n) h c2 c0 (Or.inl k1) c1 hb rc).fwd
            simp only [if_pos k1] at this
            exact this
          · rw [if_neg (fun q => k1 ((c_eqL 1 (by omega) hk).mp q)), if_neg k1]
            by_cases k2 : kind = 2
            · rw [if_pos ((c_eqL 2 (by omega) hk).mpr k2), if_pos k2]
              have := (x_tellPrint (n := n) h c2 c0 (Or.inr k2) c1 hb rc).fwd
              simp only [if_neg k1] at this
              exact this
            · rw [if_neg (fun q => k2 ((c_eqL 2 (by omega) hk).mp q)), if_neg k2]
              by_cases k3 : kind = 3
              · rw [if_pos ((c_eqL 3 (by omega) hk).mpr k3), if_pos k3]
                exact (x_tellBegan h c2 c0 c1 hx hy).fwd
              · rw [if_neg (fun q => k3 ((c_eqL 3 (by omega) hk).mp q)), if_neg k3]
                by_cases k4 : kind = 4
                · rw [if_pos ((c_eqL 4 (by omega) hk).mpr k4), if_pos k4]
                  exact (x_tellBehind h c2 c0 c1 hb hx).fwd
                · rw [if_neg (fun q => k4 ((c_eqL 4 (by omega) hk).mp q)), if_neg k4]
                  exact Adds.no h
      · rw [if_neg (fun q => by have := (c_ltL 20 (by omega) (RI.sm (by omega) (by omega))).mp q; omega), if_pos (Or.inr (Or.inr c2))]
        exact Adds.no h
    · simp only [if_neg c1]
      rw [if_pos (Or.inr (Or.inl c1))]
      exact Adds.no h
  · rw [if_neg c0, if_pos i00, if_pos (Or.inl c0)]
    exact Adds.no h
/-- count -/
def cnt (A : AS) (z : Int) : Int := if z = 0 then wn A else if z = 1 then fn A else if z = 2 then tn A else if z = 3 then wide A else if z = 4 then deep A else if z = 5 then day A else if z = 6 then sn A else -1
theorem RC.t (h : RC B wa σ A) : σ.2.1 (B + 1) = some (7, 7) := h.sh 1 (by omega)
theorem x_count (h : RC B wa σ A) {z : Int} (hz : RI z) : mX9_count n σ B (iI z) = some (iI (cnt A z), σ) := by
  unfold mX9_count cnt
  simp only [h.o, Option.bind_some, h.qwn, h.qfn, h.qwide, h.qdeep, h.qday, h.qsn, h.r3, gI_ok h.t (show 1 < 7 by omega) h.2.2.2.2.2.1.2.2.2.2.2.2.1]
  by_cases k0 : z = 0
  · rw [if_pos ((c_eq0 hz).mpr k0), if_pos k0]
  · rw [if_neg (fun q => k0 ((c_eq0 hz).mp q)), if_neg k0]
    by_cases k1 : z = 1
    · rw [if_pos ((c_eqL 1 (by omega) hz).mpr k1), if_pos k1]
    · rw [if_neg (fun q => k1 ((c_eqL 1 (by omega) hz).mp q)), if_neg k1]
      by_cases k2 : z = 2
      · rw [if_pos ((c_eqL 2 (by omega) hz).mpr k2), if_pos k2]
      · rw [if_neg (fun q => k2 ((c_eqL 2 (by omega) hz).mp q)), if_neg k2]
        by_cases k3 : z = 3
        · rw [if_pos ((c_eqL 3 (by omega) hz).mpr k3), if_pos k3]
        · rw [if_neg (fun q => k3 ((c_eqL 3 (by omega) hz).mp q)), if_neg k3]
          by_cases k4 : z = 4
          · rw [if_pos ((c_eqL 4 (by omega) hz).mpr k4), if_pos k4]
          · rw [if_neg (fun q => k4 ((c_eqL 4 (by omega) hz).mp q)), if_neg k4]
            by_cases k5 : z = 5
            · rw [if_pos ((c_eqL 5 (by omega) hz).mpr k5), if_pos k5]
            · rw [if_neg (fun q => k5 ((c_eqL 5 (by omega) hz).mp q)), if_neg k5]
              by_cases k6 : z = 6
              · rw [if_pos ((c_eqL 6 (by omega) hz).mpr k6), if_pos k6]
              · rw [if_neg (fun q => k6 ((c_eqL 6 (by omega) hz).mp q)), if_neg k6]; rfl
end X38
