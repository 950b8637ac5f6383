/-! ===== the reference's closing, as numbers ===== -/
/-- a node of the reference as a point of the class; a point as a node -/
def pn (p : Nat) : Nat := if p = 8 then 0 else p + 1
def nd (i : Nat) : Nat := if i = 0 then 8 else i - 1
theorem pn_nd (i : Nat) (hi : i < 9) : pn (nd i) = i := by
  unfold pn nd
  by_cases c : i = 0
  · rw [if_pos c, if_pos rfl, c]
  · rw [if_neg c, if_neg (by omega)]; omega
abbrev ex (A : AS) (p : Nat) : Prop := p < wn A ∨ p = 8
theorem ex_nd {A : AS} {i : Nat} (hi : i < wn A + 1) : ex A (nd i) := by
  unfold ex nd
  by_cases c : i = 0
  · rw [if_pos c]; exact Or.inr rfl
  · rw [if_neg c]; omega
theorem nd_lt {A : AS} (hA : Wf A) {i : Nat} (hi : i < wn A + 1) : nd i < 9 := by
  have := hA.2.2.1.1
  unfold nd
  split <;> omega
theorem ex_pn {A : AS} (hA : Wf A) {p : Nat} (h : ex A p) : pn p < wn A + 1 ∧ p < 9 := by
  have := hA.2.2.1.1
  unfold pn
  rcases h with h | h
  · rw [if_neg (by omega)]; omega
  · rw [if_pos h]; omega
/-- a matrix laid of gaps -/
def Lay (A : AS) (R : Nat → Nat → Int → Prop) (X : Nat → Nat → Int) : Prop :=
  (∀ p q v, ex A p → ex A q → R (pn p) (pn q) v → -1000000 < v → v ≤ X p q) ∧ (∀ p, p < 9 → X p p = 0) ∧ (∀ p q, p < 9 → q < 9 → p ≠ q → X p q = -1000000 ∨ (ex A p ∧ ex A q ∧ R (pn p) (pn q) (X p q) ∧ -6000 ≤ X p q ∧ X p q ≤ 6000))
def umx (X : Nat → Nat → Int) (p q : Nat) (v : Int) : Nat → Nat → Int := fun i j => if i = p ∧ j = q then max (X p q) v else X i j
theorem umx_ge (X : Nat → Nat → Int) (p q : Nat) (v : Int) (i j : Nat) : X i j ≤ umx X p q v i j := by
  unfold umx
  split
  · rename_i h; rw [h.1, h.2]; omega
  · omega
theorem pn_inj {p q : Nat} (h : pn p = pn q) : p = q := by
  unfold pn at h
  split at h <;> split at h <;> omega
theorem Lay.add {A : AS} {R : Nat → Nat → Int → Prop} {X : Nat → Nat → Int} (h : Lay A R X) {p q : Nat} {v : Int} (hp : ex A p) (hq : ex A q) (hpq : p ≠ q) (hv : -6000 ≤ v ∧ v ≤ 6000) : Lay A (arcR R (pn p) (pn q) v) (umx X p q v) := by
  refine ⟨fun i j w hi hj hr hw => ?_, fun i hi => ?_, fun i j hi hj hij => ?_⟩
  · rcases hr with hr | ⟨h1, h2, h3⟩
    · exact Int.le_trans (h.1 i j w hi hj hr hw) (umx_ge X p q v i j)
    · have e1 := pn_inj h1
      have e2 := pn_inj h2
      unfold umx
      rw [if_pos ⟨e1, e2⟩]; omega
  · unfold umx
    rw [if_neg (by omega)]
    exact h.2.1 i hi
  · unfold umx
    by_cases c : i = p ∧ j = q
    · rw [if_pos c]
      obtain ⟨rfl, rfl⟩ := c
      rcases h.2.2 i j hi hj hij with h1 | ⟨h1, h2, h3, h4, h5⟩
      · refine Or.inr ⟨hp, hq, ?_, by omega, by omega⟩
        rw [show max (X i j) v = v by omega]
        exact Or.inr ⟨rfl, rfl, rfl⟩
      · refine Or.inr ⟨hp, hq, ?_, by omega, by omega⟩
        by_cases c2 : X i j ≤ v
        · rw [show max (X i j) v = v by omega]
          exact Or.inr ⟨rfl, rfl, rfl⟩
        · rw [show max (X i j) v = X i j by omega]
          exact Or.inl h3
    · rw [if_neg c]
      rcases h.2.2 i j hi hj hij with h1 | ⟨h1, h2, h3, h4⟩
      · exact Or.inl h1
      · exact Or.inr ⟨h1, h2, Or.inl h3, h4⟩
theorem Lay.iff {A : AS} {R R' : Nat → Nat → Int → Prop} {X : Nat → Nat → Int} (h : Lay A R X) (h1 : ∀ i j v, -1000000 < v → (R i j v ↔ R' i j v)) : Lay A R' X := by
  refine ⟨fun p q v hp hq hr hv => h.1 p q v hp hq ((h1 _ _ _ hv).mpr hr) hv, h.2.1, fun p q hp hq hpq => ?_⟩
  rcases h.2.2 p q hp hq hpq with h2 | ⟨a, b, c, d⟩
  · exact Or.inl h2
  · exact Or.inr ⟨a, b, (h1 _ _ _ (by omega)).mp c, d⟩
/-- one stage of the closing -/
def stg (X : Nat → Nat → Int) (m : Nat) : Nat → Nat → Int := fun i j => if -1000000 < X i m ∧ -1000000 < X m j then max (X i j) (X i m + X m j) else X i j
theorem stg_ge (X : Nat → Nat → Int) (m i j : Nat) : X i j ≤ stg X m i j := by
  unfold stg
  split <;> omega
/-- how many below m have P -/
noncomputable def cN (P : Nat → Prop) : Nat → Nat
  | 0 => 0
  | k + 1 => cN P k + @ite Nat (P k) (Classical.propDecidable (P k)) 1 0
theorem cN_yes {P : Nat → Prop} {k : Nat} (h : P k) : cN P (k + 1) = cN P k + 1 := by
  conv => lhs; unfold cN
  rw [if_pos h]
theorem cN_no {P : Nat → Prop} {k : Nat} (h : ¬ P k) : cN P (k + 1) = cN P k := by
  conv => lhs; unfold cN
  rw [if_neg h, Nat.add_zero]
theorem cN_le (P : Nat → Prop) : ∀ m, cN P m ≤ m
  | 0 => Nat.le_refl 0
  | m + 1 => by
    have := cN_le P m
    by_cases h : P m
    · rw [cN_yes h]; omega
    · rw [cN_no h]; omega
theorem cN_up (P : Nat → Prop) (m : Nat) : cN P m ≤ cN P (m + 1) := by
  by_cases h : P m
  · rw [cN_yes h]; omega
  · rw [cN_no h]; omega
theorem cN_two {P Q R : Nat → Prop} : ∀ m, (∀ k, k < m → P k → R k) → (∀ k, k < m → Q k → R k) → (∀ k, k < m → P k → ¬ Q k) → cN P m + cN Q m ≤ cN R m
  | 0, _, _, _ => Nat.le_refl 0
  | m + 1, h1, h2, h3 => by
    have ih := cN_two m (fun k hk => h1 k (by omega)) (fun k hk => h2 k (by omega)) (fun k hk => h3 k (by omega))
    by_cases hp : P m
    · have hq := h3 m (by omega) hp
      rw [cN_yes hp, cN_no hq, cN_yes (h1 m (by omega) hp)]; omega
    · by_cases hq : Q m
      · rw [cN_no hp, cN_yes hq, cN_yes (h2 m (by omega) hq)]; omega
      · have := cN_up R m
        rw [cN_no hp, cN_no hq]; omega
theorem cN_mono {P R : Nat → Prop} (m : Nat) (h : ∀ k, k < m → P k → R k) : cN P m ≤ cN R m := by
  have := cN_two (P := P) (Q := fun _ => False) (R := R) m h (fun k _ q => q.elim) (fun k _ _ q => q)
  omega
/-- the stages' invariant; G: who is reached from whom over nodes below m -/
def FWI (A : AS) (R : Nat → Nat → Int → Prop) (m : Nat) (X : Nat → Nat → Int) (G : Nat → Nat → Prop) : Prop :=
  (∀ p q, p < 9 → q < 9 → (G p q → -(6000 * (1 + (cN (fun k => G p k ∧ G k q) m : Int))) ≤ X p q ∧ X p q ≤ 6000 * 2 ^ m) ∧ (¬ G p q → X p q = -1000000)) ∧
  (∀ p, p < 9 → G p p ∧ X p p = 0) ∧
  (∀ k p q, k < m → p < 9 → q < 9 → G p k → G k q → G p q ∧ X p k + X k q ≤ X p q) ∧
  (∀ p q v, ex A p → ex A q → R (pn p) (pn q) v → -1000000 < v → G p q ∧ v ≤ X p q) ∧
  (∀ Y, CM (wn A + 1) R Y → ∀ p q, ex A p → ex A q → G p q → X p q ≤ Y (pn p) (pn q)) ∧
  (∀ p q, p < 9 → q < 9 → p ≠ q → G p q → ex A p ∧ ex A q)
theorem FWI.start {A : AS} (hA : Wf A) {R : Nat → Nat → Int → Prop} {X : Nat → Nat → Int} (h : Lay A R X) : FWI A R 0 X (fun p q => p = q ∨ -1000000 < X p q) := by
  have pw : (6000 * 2 ^ 0 : Int) = 6000 := by decide
  refine ⟨fun p q hp hq => ⟨fun g => ?_, fun g => ?_⟩, fun p hp => ⟨Or.inl rfl, h.2.1 p hp⟩, fun k p q hk => by omega, fun p q v hp hq hr hv => ?_, fun Y hY p q hp hq g => ?_, fun p q hp hq hpq g => ?_⟩
  · rw [pw]
    show -(6000 * (1 + ((0 : Nat) : Int))) ≤ X p q ∧ X p q ≤ 6000
    by_cases c : p = q
    · rw [c, h.2.1 q hq]; omega
    · rcases h.2.2 p q hp hq c with h1 | h1
      · rcases g with g | g <;> omega
      · omega
  · by_cases c : p = q
    · exact absurd (Or.inl c) g
    · rcases h.2.2 p q hp hq c with h1 | ⟨-, -, -, h1⟩
      · exact h1
      · exact absurd (Or.inr (by omega)) g
  · have := h.1 p q v hp hq hr hv
    exact ⟨Or.inr (by omega), this⟩
  · have e1 := ex_pn hA hp
    have e2 := ex_pn hA hq
    by_cases c : p = q
    · rw [c, h.2.1 q e2.2, hY.1 _ e2.1]; omega
    · rcases h.2.2 p q e1.2 e2.2 c with h1 | ⟨-, -, h1, -⟩
      · rcases g with g | g <;> omega
      · exact hY.2.1 _ _ _ e1.1 e2.1 h1
  · rcases h.2.2 p q hp hq hpq with h1 | ⟨h1, h2, -⟩
    · rcases g with g | g <;> omega
    · exact ⟨h1, h2⟩
section X56
variable {A : AS} {R : Nat → Nat → Int → Prop} {X : Nat → Nat → Int} {G : Nat → Nat → Prop} {m : Nat}
theorem FWI.low (h : FWI A R m X G) (hm : m ≤ 9) {p q : Nat} (hp : p < 9) (hq : q < 9) (g : G p q) : -60000 ≤ X p q := by
  have := ((h.1 p q hp hq).1 g).1
  have := cN_le (fun k => G p k ∧ G k q) m
  omega
theorem FWI.tests (h : FWI A R m X G) (hm : m < 9) {p q : Nat} (hp : p < 9) (hq : q < 9) : -1000000 < X p q ↔ G p q := by
  constructor
  · intro q1
    exact Classical.byContradiction fun g => by have := (h.1 p q hp hq).2 g; omega
  · intro g
    have := h.low (by omega) hp hq g
    omega
theorem FWI.stage (h : FWI A R m X G) (hm : m < 9) {p q : Nat} (hp : p < 9) (hq : q < 9) : (G p m ∧ G m q ∧ stg X m p q = max (X p q) (X p m + X m q)) ∨ (¬ (G p m ∧ G m q) ∧ stg X m p q = X p q) := by
  have t1 := h.tests hm hp hm
  have t2 := h.tests hm hm hq
  unfold stg
  by_cases c : -1000000 < X p m ∧ -1000000 < X m q
  · rw [if_pos c]
    exact Or.inl ⟨t1.mp c.1, t2.mp c.2, rfl⟩
  · rw [if_neg c]
    exact Or.inr ⟨fun g => c ⟨t1.mpr g.1, t2.mpr g.2⟩, rfl⟩
theorem FWI.below (hA : Wf A) (h : FWI A R m X G) (hR : ∀ i j v, frR (day A) i j v → R i j v) (hm : m < 9) {Y : Nat → Nat → Int} (hY : CM (wn A + 1) R Y) {p q : Nat} (hp : ex A p) (hq : ex A q) : stg X m p q ≤ Y (pn p) (pn q) := by
  have e1 := ex_pn hA hp
  have e2 := ex_pn hA hq
  have hd := hA.1
  have yw := (hY.within hR (by omega) e1.1 e2.1).1
  have xy : X p q ≤ Y (pn p) (pn q) := by
    by_cases c : G p q
    · exact h.2.2.2.2.1 Y hY p q hp hq c
    · rw [(h.1 p q e1.2 e2.2).2 c]; omega
  rcases h.stage hm e1.2 e2.2 with ⟨a, b, c⟩ | ⟨a, c⟩
  · rw [c]
    have exm : ex A m := by
      by_cases d : p = m
      · rw [← d]; exact hp
      · exact (h.2.2.2.2.2 p m e1.2 hm d a).2
    have e3 := ex_pn hA exm
    have k1 := h.2.2.2.2.1 Y hY p m hp exm a
    have k2 := h.2.2.2.2.1 Y hY m q exm hq b
    have k3 := hY.2.2 (pn p) (pn m) (pn q) e1.1 e3.1 e2.1
    omega
  · rw [c]; exact xy
theorem FWI.step (hA : Wf A) (h : FWI A R m X G) (hR : ∀ i j v, frR (day A) i j v → R i j v) (hm : m < 9) (hdg : ∀ p, p < 9 → stg X m p p ≤ 0) : FWI A R (m + 1) (stg X m) (fun p q => G p q ∨ (G p m ∧ G m q)) := by
  have S := fun {p q : Nat} (hp : p < 9) (hq : q < 9) => h.stage hm hp hq
  have B := fun {Y : Nat → Nat → Int} (hY : CM (wn A + 1) R Y) {p q : Nat} (hp : ex A p) (hq : ex A q) => h.below hA hR hm hY hp hq
  have low := fun {p q : Nat} (hp : p < 9) (hq : q < 9) => h.low (p := p) (q := q) (by omega) hp hq
  obtain ⟨h1, h2, h3, h4, h5, h6⟩ := h
  have gmm := h2 m hm
  have pw : (6000 * 2 ^ (m + 1) : Int) = 2 * (6000 * 2 ^ m) := by rw [Int.pow_succ]; omega
  have pos : (0 : Int) < 6000 * 2 ^ m := by
    have : (0 : Int) < 2 ^ m := Int.pow_pos (by omega)
    omega
  rw [FWI, pw]
  generalize (6000 * 2 ^ m : Int) = K at *
  have ge : ∀ i j, X i j ≤ stg X m i j := stg_ge X m
  have via : ∀ i j, i < 9 → j < 9 → G i m → G m j → X i m + X m j ≤ stg X m i j := fun i j hi hj a b => by
    rcases S hi hj with ⟨-, -, c⟩ | ⟨c, -⟩
    · omega
    · exact absurd ⟨a, b⟩ c
  have rep : ∀ i j, i < 9 → j < 9 → (G i j ∨ (G i m ∧ G m j)) → (G i j ∧ stg X m i j = X i j) ∨ (G i m ∧ G m j ∧ stg X m i j = X i m + X m j) := fun i j hi hj g => by
    rcases S hi hj with ⟨a, b, c⟩ | ⟨a, c⟩
    · have l1 := low hi hm a
      have l2 := low hm hj b
      by_cases d : G i j
      · by_cases e : X i m + X m j ≤ X i j
        · exact Or.inl ⟨d, by omega⟩
        · exact Or.inr ⟨a, b, by omega⟩
      · have n1 := (h1 i j hi hj).2 d
        exact Or.inr ⟨a, b, by omega⟩
    · rcases g with g | g
      · exact Or.inl ⟨g, c⟩
      · exact absurd g a
  refine ⟨fun p q hp hq => ⟨fun g => ?_, fun g => ?_⟩, fun p hp => ⟨Or.inl (h2 p hp).1, ?_⟩, fun k p q hk hp hq g1 g2 => ?_, fun p q v hp hq hr hv => ?_, fun Y hY p q hp hq g => B hY hp hq, fun p q hp hq hpq g => ?_⟩
  · have up : stg X m p q ≤ 2 * K := by
      have b2 := (h1 p m hp hm).1
      have b3 := (h1 m q hm hq).1
      rcases S hp hq with ⟨a, b, c⟩ | ⟨a, c⟩
      · have := (b2 a).2
        have := (b3 b).2
        by_cases d : G p q
        · have := ((h1 p q hp hq).1 d).2; omega
        · have := (h1 p q hp hq).2 d; omega
      · rcases g with g | g
        · have := ((h1 p q hp hq).1 g).2; omega
        · exact absurd g a
    refine ⟨?_, up⟩
    by_cases d : G p q
    · have b1 := ((h1 p q hp hq).1 d).1
      have c1 := cN_mono (P := fun k => G p k ∧ G k q) (R := fun k => (G p k ∨ G p m ∧ G m k) ∧ (G k q ∨ G k m ∧ G m q)) m (fun k _ a => ⟨Or.inl a.1, Or.inl a.2⟩)
      have c2 := cN_up (fun k => (G p k ∨ G p m ∧ G m k) ∧ (G k q ∨ G k m ∧ G m q)) m
      have := ge p q
      omega
    · have gg : G p m ∧ G m q := by
        rcases g with g | g
        · exact absurd g d
        · exact g
      have b1 := ((h1 p m hp hm).1 gg.1).1
      have b2 := ((h1 m q hm hq).1 gg.2).1
      have v := via p q hp hq gg.1 gg.2
      have c1 := cN_two (P := fun k => G p k ∧ G k m) (Q := fun k => G m k ∧ G k q) (R := fun k => (G p k ∨ G p m ∧ G m k) ∧ (G k q ∨ G k m ∧ G m q)) m (fun k _ a => ⟨Or.inl a.1, Or.inr ⟨a.2, gg.2⟩⟩) (fun k _ a => ⟨Or.inr ⟨gg.1, a.1⟩, Or.inl a.2⟩) (fun k hk a b => d (h3 k p q hk hp hq a.1 b.2).1)
      have c2 := cN_yes (P := fun k => (G p k ∨ G p m ∧ G m k) ∧ (G k q ∨ G k m ∧ G m q)) (k := m) ⟨Or.inl gg.1, Or.inl gg.2⟩
      rw [c2]
      omega
  · rcases S hp hq with ⟨a, b, c⟩ | ⟨a, c⟩
    · exact absurd (Or.inr ⟨a, b⟩) g
    · rw [c]; exact (h1 p q hp hq).2 (fun q => g (Or.inl q))
  · have := hdg p hp
    have := ge p p
    have := (h2 p hp).2
    omega
  · have hk9 : k < 9 := by omega
    by_cases ck : k = m
    · subst ck
      have a1 : G p k := by rcases g1 with g | g; exact g; exact g.1
      have a2 : G k q := by rcases g2 with g | g; exact g; exact g.2
      refine ⟨Or.inr ⟨a1, a2⟩, ?_⟩
      have v := via p q hp hq a1 a2
      rcases S hp hk9 with ⟨-, -, c1⟩ | ⟨c1, -⟩
      · rcases S hk9 hq with ⟨-, -, c2⟩ | ⟨c2, -⟩
        · omega
        · exact absurd ⟨gmm.1, a2⟩ c2
      · exact absurd ⟨a1, gmm.1⟩ c1
    · have hkm : k < m := by omega
      have T := fun i j hi hj => h3 k i j hkm hi hj
      have L : ∀ i, i < 9 → G i k → G k m → G i m ∧ X i k + X k m ≤ X i m := fun i hi a b => T i m hi hm a b
      have U : ∀ j, j < 9 → G m k → G k j → G m j ∧ X m k + X k j ≤ X m j := fun j hj a b => T m j hm hj a b
      rcases rep p k hp hk9 g1 with ⟨a, a'⟩ | ⟨a, b, a'⟩ <;> rcases rep k q hk9 hq g2 with ⟨c, c'⟩ | ⟨c, d, c'⟩
      · have t := T p q hp hq a c
        exact ⟨Or.inl t.1, by have := ge p q; omega⟩
      · have t := L p hp a c
        exact ⟨Or.inr ⟨t.1, d⟩, by have := via p q hp hq t.1 d; omega⟩
      · have t := U q hq b c
        exact ⟨Or.inr ⟨a, t.1⟩, by have := via p q hp hq a t.1; omega⟩
      · have t := L m hm b c
        exact ⟨Or.inr ⟨a, d⟩, by have := via p q hp hq a d; omega⟩
  · have a := h4 p q v hp hq hr hv
    exact ⟨Or.inl a.1, Int.le_trans a.2 (ge p q)⟩
  · rcases g with g | ⟨g1, g2⟩
    · exact h6 p q hp hq hpq g
    · by_cases d1 : p = m
      · rw [← d1] at g2; exact h6 p q hp hq hpq g2
      · by_cases d2 : m = q
        · rw [d2] at g1; exact h6 p q hp hq hpq g1
        · exact ⟨(h6 p m hp hm d1 g1).1, (h6 m q hm hq d2 g2).2⟩
theorem FWI.done (hA : Wf A) (h : FWI A R 9 X G) (hR : ∀ i j v, frR (day A) i j v → R i j v) : LM (wn A + 1) R (fun i j => X (nd i) (nd j)) := by
  have hd := hA.1
  obtain ⟨h1, h2, h3, h4, h5, h6⟩ := h
  have h8 := hA.2.2.1.1
  have to8 : ∀ p, ex A p → G p 8 ∧ -2000 ≤ X p 8 := fun p hp => by
    rcases hp with hp | hp
    · have a := h4 p 8 (-(day A : Int)) (Or.inl hp) (Or.inr rfl) (hR _ _ _ (Or.inr ⟨rfl, by unfold pn; rw [if_neg (by omega)]; omega, rfl⟩)) (by omega)
      exact ⟨a.1, by omega⟩
    · rw [hp]
      have := h2 8 (by omega)
      exact ⟨this.1, by omega⟩
  have of8 : ∀ p, ex A p → G 8 p ∧ 0 ≤ X 8 p := fun p hp => by
    rcases hp with hp | hp
    · exact h4 8 p 0 (Or.inr rfl) (Or.inl hp) (hR _ _ _ (Or.inl ⟨rfl, rfl⟩)) (by omega)
    · rw [hp]
      have := h2 8 (by omega)
      exact ⟨this.1, by omega⟩
  have all : ∀ p q, ex A p → ex A q → G p q ∧ -2000 ≤ X p q := fun p q hp hq => by
    have e1 := (ex_pn hA hp).2
    have e2 := (ex_pn hA hq).2
    have a := to8 p hp
    have b := of8 q hq
    have c := h3 8 p q (by omega) e1 e2 a.1 b.1
    exact ⟨c.1, by omega⟩
  refine ⟨⟨fun i hi => (h2 _ (nd_lt hA hi)).2, fun i j v hi hj hr => ?_, fun i j k hi hj hk => ?_⟩, fun Y hY i j hi hj => ?_⟩
  · have a := all (nd i) (nd j) (ex_nd hi) (ex_nd hj)
    by_cases c : -1000000 < v
    · exact (h4 (nd i) (nd j) v (ex_nd hi) (ex_nd hj) (by rw [pn_nd i (by omega), pn_nd j (by omega)]; exact hr) c).2
    · show v ≤ X (nd i) (nd j)
      omega
  · exact (h3 (nd j) (nd i) (nd k) (nd_lt hA hj) (nd_lt hA hi) (nd_lt hA hk) (all _ _ (ex_nd hi) (ex_nd hj)).1 (all _ _ (ex_nd hj) (ex_nd hk)).1).2
  · have a := h5 Y hY (nd i) (nd j) (ex_nd hi) (ex_nd hj) (all _ _ (ex_nd hi) (ex_nd hj)).1
    rw [pn_nd i (by omega), pn_nd j (by omega)] at a
    exact a
end X56
