/-! ===== core: the class counts facts on round trips ===== -/
/-- the class's world with its two rows of trips -/
def co (B : Nat) (σ : Sg) (d1 d2 : Nat → Int) : Sg := (σ.1, σ.2.1, fun a => if a = B + 9 then iz d1 else if a = B + 10 then iz d2 else σ.2.2 a)
theorem co_9 {B : Nat} {σ : Sg} {d1 d2 : Nat → Int} : (co B σ d1 d2).2.2 (B + 9) = iz d1 := by simp [co]
theorem co_10 {B : Nat} {σ : Sg} {d1 d2 : Nat → Int} : (co B σ d1 d2).2.2 (B + 10) = iz d2 := by simp [co]
theorem co_ne {B : Nat} {σ : Sg} {d1 d2 : Nat → Int} {a : Nat} (h1 : a ≠ B + 9) (h2 : a ≠ B + 10) : (co B σ d1 d2).2.2 a = σ.2.2 a := by simp [co, h1, h2]
theorem co_set1 {B : Nat} {σ : Sg} {d1 d2 e : Nat → Int} : setA (co B σ d1 d2) (B + 9) e = co B σ e d2 := by
  have : upA (co B σ d1 d2).2.2 (B + 9) (iz e) = (co B σ e d2).2.2 := by
    funext a
    simp only [upA, co]
    by_cases h : a = B + 9
    · rw [if_pos h, if_pos h]
    · rw [if_neg h, if_neg h, if_neg h]
  show ((co B σ d1 d2).1, (co B σ d1 d2).2.1, upA (co B σ d1 d2).2.2 (B + 9) (iz e)) = _
  rw [this]; rfl
theorem co_set2 {B : Nat} {σ : Sg} {d1 d2 e : Nat → Int} : setA (co B σ d1 d2) (B + 10) e = co B σ d1 e := by
  have : upA (co B σ d1 d2).2.2 (B + 10) (iz e) = (co B σ d1 e).2.2 := by
    funext a
    simp only [upA, co]
    by_cases h : a = B + 10
    · rw [if_pos h, if_neg (show ¬ a = B + 9 by omega), if_pos h]
    · rw [if_neg h]
      by_cases h2 : a = B + 9
      · rw [if_pos h2, if_pos h2]
      · rw [if_neg h2, if_neg h2, if_neg h, if_neg h]
  show ((co B σ d1 d2).1, (co B σ d1 d2).2.1, upA (co B σ d1 d2).2.2 (B + 10) (iz e)) = _
  rw [this]; rfl
theorem co_id {B : Nat} {σ : Sg} {d1 d2 : Nat → Int} (h1 : σ.2.2 (B + 9) = iz d1) (h2 : σ.2.2 (B + 10) = iz d2) : co B σ d1 d2 = σ := by
  have : (fun a => if a = B + 9 then iz d1 else if a = B + 10 then iz d2 else σ.2.2 a) = σ.2.2 := by
    funext a
    by_cases h : a = B + 9
    · rw [if_pos h, h, h1]
    · rw [if_neg h]
      by_cases h' : a = B + 10
      · rw [if_pos h', h', h2]
      · rw [if_neg h']
  show (σ.1, σ.2.1, _) = σ
  rw [this]
theorem co_fr {B : Nat} {σ : Sg} {d1 d2 : Nat → Int} : Fr B σ (co B σ d1 d2) := by
  refine ⟨rfl, rfl, fun a k hk => ?_⟩
  have h1 : a ≠ B + 9 := fun e => hk ⟨by omega, by omega, by rw [show a - B = 9 by omega]; rfl⟩
  have h2 : a ≠ B + 10 := fun e => hk ⟨by omega, by omega, by rw [show a - B = 10 by omega]; rfl⟩
  rw [co_ne h1 h2]
theorem RS.co {B : Nat} {σ : Sg} (h : RS B σ) {d1 d2 : Nat → Int} : RS B (co B σ d1 d2) := by
  obtain ⟨a, b, c, a1, a2, a3, a4, a5, a6, a7, a8, a9⟩ := h
  exact ⟨a.same rfl (co_ne (by omega) (by omega)) (co_ne (by omega) (by omega)), fun k hk => (b k hk).same rfl (co_ne (by omega) (by omega)) (co_ne (by omega) (by omega)), fun k hk => (c k hk).same rfl (co_ne (by omega) (by omega)) (co_ne (by omega) (by omega)), ⟨d1, co_9⟩, ⟨d2, co_10⟩, a3.same (co_ne (by omega) (by omega)), a4.same (co_ne (by omega) (by omega)), a5.same (co_ne (by omega) (by omega)), a6.same (co_ne (by omega) (by omega)), a7.same (co_ne (by omega) (by omega)), a8.same (co_ne (by omega) (by omega)), a9.same (co_ne (by omega) (by omega))⟩
theorem St.co {B : Nat} {wa : Nat → Nat} {σ : Sg} {A : AS} (h : St B wa σ A) {d1 d2 : Nat → Int} : St B wa (co B σ d1 d2) A := ⟨h.1.fr co_fr, h.2.1.co, h.2.2⟩
theorem NetAt.co {B p : Nat} {σ : Sg} {d d1 d2 : Nat → Int} (h : NetAt σ (B + 6) (B + 7) p d) : NetAt (co B σ d1 d2) (B + 6) (B + 7) p d := by
  obtain ⟨h1, h2, h3, h4, h5, h6⟩ := h
  exact ⟨h1, h2, h3, by rw [co_ne (by omega) (by omega)]; exact h4, by rw [co_ne (by omega) (by omega)]; exact h5, by rw [co_ne (by omega) (by omega)]; exact h6⟩
/-- trips that go on over one gap more, row by row -/
def gov (t s P : Nat) (a b d : Nat → Int) (o u : Nat) (r : Int) : Nat → Int := fun k => if (k / 9 < t ∧ k % 9 < P) ∨ (k / 9 = t ∧ k % 9 < s) then max (a k) (b (k / 9 * 9 + u) + r + d (o * 9 + k % 9)) else a k
theorem gov_succ {t s P : Nat} {a b d : Nat → Int} {o u : Nat} {r : Int} (hs : s < 9) : gov t (s + 1) P a b d o u r = updZ (gov t s P a b d o u r) (t * 9 + s) (max (a (t * 9 + s)) (b (t * 9 + u) + r + d (o * 9 + s))) := by
  funext k
  simp only [gov, updZ]
  by_cases hk : k = t * 9 + s
  · subst hk
    rw [if_pos (by omega), if_pos rfl, show (t * 9 + s) / 9 = t by omega, show (t * 9 + s) % 9 = s by omega]
  · rw [if_neg hk]
    by_cases c : (k / 9 < t ∧ k % 9 < P) ∨ (k / 9 = t ∧ k % 9 < s)
    · rw [if_pos c, if_pos (by omega)]
    · rw [if_neg c, if_neg (by omega)]
theorem gov_row (t P : Nat) (a b d : Nat → Int) (o u : Nat) (r : Int) : gov t P P a b d o u r = gov (t + 1) 0 P a b d o u r := by
  funext k
  simp only [gov]
  by_cases c : (k / 9 < t ∧ k % 9 < P) ∨ (k / 9 = t ∧ k % 9 < P)
  · rw [if_pos c, if_pos (Or.inl ⟨by omega, by omega⟩)]
  · rw [if_neg c, if_neg (by intro q; apply c; omega)]
theorem gov_at {t s P : Nat} {a b d : Nat → Int} {o u : Nat} {r : Int} (hs : s < 9) : gov t s P a b d o u r (t * 9 + s) = a (t * 9 + s) := by
  unfold gov
  rw [if_neg (by omega)]
theorem gov_0 (P : Nat) (a b d : Nat → Int) (o u : Nat) (r : Int) : gov 0 0 P a b d o u r = a := by
  funext k
  unfold gov
  rw [if_neg (by omega)]
section X63
variable {B n : Nat} {wa : Nat → Nat} {σ : Sg} {A : AS}
def Bt (a : Nat → Int) : Prop := ∀ k, k < 81 → -300000000 ≤ a k ∧ a k ≤ 300000000
theorem x_goOver (hC : RC B wa σ A) {P : Nat} {a b d : Nat → Int} (hN : NetAt σ (B + 6) (B + 7) P d) (hP : P ≤ 9) (ha : Bt a) (hb : Bt b) (hd : Bs d) {o u : Nat} {r : Int} (ho : o < P) (hu : u < P) (hr : -1000000 ≤ r ∧ r ≤ 1000000) (hn : 100000 ≤ n) : mX1_goOver n (co B σ b a) (B + 8) (B + 6) (iI o) (iI u) (iI r) = some (co B σ b (if -1000000 < r then gov P 0 P a b d o u r else a)) := by
  have s8 : σ.2.1 (B + 8) = some (1, 2) := hC.sh 8 (by omega)
  have s9 : σ.2.1 (B + 9) = some (11, 81) := hC.sh 9 (by omega)
  have s10 : σ.2.1 (B + 10) = some (11, 81) := hC.sh 10 (by omega)
  have p0 : ∀ a b, toR (gV 1 (co B σ a b) (B + 8) 0) = some (B + 9) := fun a b => gR_ok (σ := co B σ a b) s8 (by omega) (by rw [co_ne (by omega) (by omega)]; exact hC.pt 14 rfl)
  have p1 : ∀ a b, toR (gV 1 (co B σ a b) (B + 8) 1) = some (B + 10) := fun a b => gR_ok (σ := co B σ a b) s8 (by omega) (by rw [co_ne (by omega) (by omega)]; exact hC.pt 15 rfl)
  have pts : ∀ a b, toI (gV 4 (co B σ a b) (B + 6) 1) = some (iI P) := fun a b => gI_ok (σ := co B σ a b) hN.1 (by omega) (hN.co (d1 := a) (d2 := b)).2.2.2.2.1
  unfold mX1_goOver
  rw [isO_ok (σ := co B σ b a) s8]
  simp only [Option.bind_some]
  have cr : (iI r ≤ (-1000000 : Int32)) ↔ r ≤ -1000000 := by
    rw [show (-1000000 : Int32) = iI (-1000000) from rfl, iI_le (by omega) (by omega)]
  by_cases c : -1000000 < r
  · rw [if_neg (fun q => by have := cr.mp q; omega), if_pos c]
    simp only [net_isPoint (hN.co (d1 := b) (d2 := a)) hP ho, net_isPoint (hN.co (d1 := b) (d2 := a)) hP hu, Option.bind_some, if_neg (show ¬ (1 : Int32) = 0 by decide)]
    have inner : ∀ t : Nat, t < P → loopM (mX1_goOver_L56 n (B + 8) (B + 6) (iI o) (iI t) (iI (b (t * 9 + u) + r))) n (co B σ b (gov t 0 P a b d o u r), iI 0) = some (co B σ b (gov (t + 1) 0 P a b d o u r)) := by
      intro t ht
      rw [← gov_row]
      have e0 : (co B σ b (gov t 0 P a b d o u r), iI 0) = (fun s : Nat => (co B σ b (gov t s P a b d o u r), iI (s : Int))) 0 := rfl
      rw [e0]
      refine loop_run (fun s : Nat => (co B σ b (gov t s P a b d o u r), iI (s : Int))) P 0 (fun s _ hs => ?_) ?_ n (by omega)
      · have b1 := ha (t * 9 + s) (by omega)
        have b2 := hb (t * 9 + u) (by omega)
        have b3 := hd (o * 9 + s)
        have r1 : toI (aV 11 (co B σ b (gov t s P a b d o u r)) (B + 10) (iI ((t : Int) * 9 + s))) = some (iI (a (t * 9 + s))) := by
          rw [aI_ok (σ := co B σ b (gov t s P a b d o u r)) s10 co_10 (by omega) (by omega) (by omega), show ((t : Int) * 9 + s).toNat = t * 9 + s by omega, gov_at (by omega)]
        have r2 := net_least (n := n) (hN.co (d1 := b) (d2 := gov t s P a b d o u r)) hP (i := o) (j := s) ho (by omega)
        have r3 : ∀ v, sV 11 (co B σ b (gov t s P a b d o u r)) (B + 10) (iI ((t : Int) * 9 + s)) (.int (iI v)) = some (co B σ b (updZ (gov t s P a b d o u r) (t * 9 + s) v)) := by
          intro v
          rw [sV_ok (σ := co B σ b (gov t s P a b d o u r)) s10 co_10 (by omega) (by omega) (by omega), show ((t : Int) * 9 + s).toNat = t * 9 + s by omega, co_set2]
        simp (disch := omega) only [mX1_goOver_L56, pts, Option.bind_some, iI_le, iL, iI_mul, iI_add, nm, p1, r1, r2]
        rw [if_neg (by omega), jmax_iI (RI.sm (by omega) (by omega)) (RI.sm (by omega) (by omega)), r3, gov_succ (by omega)]; rfl
      · simp (disch := omega) only [Nat.zero_add, mX1_goOver_L56, pts, Option.bind_some, iI_le]
        rw [if_pos (by omega)]
    have L : loopM (mX1_goOver_L27 n (B + 8) (B + 6) (iI o) (iI u) (iI r)) n (co B σ b a, iI 0) = some (co B σ b (gov P 0 P a b d o u r)) := by
      have e0 : (co B σ b a, iI 0) = (fun t : Nat => (co B σ b (gov t 0 P a b d o u r), iI (t : Int))) 0 := by
        simp only [gov_0]; rfl
      rw [e0]
      refine loop_run (fun t : Nat => (co B σ b (gov t 0 P a b d o u r), iI (t : Int))) P 0 (fun t _ ht => ?_) ?_ n (by omega)
      · have r1 : toI (aV 11 (co B σ b (gov t 0 P a b d o u r)) (B + 9) (iI ((t : Int) * 9 + u))) = some (iI (b (t * 9 + u))) := by
          rw [aI_ok (σ := co B σ b (gov t 0 P a b d o u r)) s9 co_9 (by omega) (by omega) (by omega), show ((t : Int) * 9 + u).toNat = t * 9 + u by omega]
        simp (disch := omega) only [mX1_goOver_L27, pts, Option.bind_some, iI_le, iL, iI_mul, iI_add, nm, p0, r1, inner t (by omega)]
        rw [if_neg (by omega)]; rfl
      · simp (disch := omega) only [Nat.zero_add, mX1_goOver_L27, pts, Option.bind_some, iI_le]
        rw [if_pos (by omega)]
    rw [show (0 : Int32) = iI 0 from rfl, L]
    rfl
  · rw [if_pos (cr.mpr (by omega)), if_neg c]
theorem x_roundTrip (hC : RC B wa σ A) {P : Nat} {a b : Nat → Int} (hP : P ≤ 9) (ha : Bt a) (hn : 100000 ≤ n) : ((∃ p, p < P ∧ 0 < a (p * 9 + p)) ∧ mX1_isRoundTripAbove n (co B σ b a) (B + 8) (iI P) = some (iI 1, co B σ b a)) ∨ ((∀ p, p < P → a (p * 9 + p) ≤ 0) ∧ mX1_isRoundTripAbove n (co B σ b a) (B + 8) (iI P) = some (iI 0, co B σ b a)) := by
  have s8 : σ.2.1 (B + 8) = some (1, 2) := hC.sh 8 (by omega)
  have s10 : σ.2.1 (B + 10) = some (11, 81) := hC.sh 10 (by omega)
  have p1 : ∀ a b, toR (gV 1 (co B σ a b) (B + 8) 1) = some (B + 10) := fun a b => gR_ok (σ := co B σ a b) s8 (by omega) (by rw [co_ne (by omega) (by omega)]; exact hC.pt 15 rfl)
  have key := loop_inv (body := mX1_isRoundTripAbove_L2 n (B + 8) (iI P)) (fun c => ∃ t : Nat, t ≤ P ∧ c = (co B σ b a, iI (t : Int)) ∧ ∀ p, p < t → a (p * 9 + p) ≤ 0) (fun c => P - c.2.toNatClampNeg) (fun r => ((∃ p, p < P ∧ 0 < a (p * 9 + p)) ∧ r = .inr (iI 1, co B σ b a)) ∨ ((∀ p, p < P → a (p * 9 + p) ≤ 0) ∧ r = .inl (co B σ b a))) ?_ n (co B σ b a, iI 0) ⟨0, by omega, rfl, fun p hp => by omega⟩ (by show P - _ < n; omega)
  · obtain ⟨r, hr, hq⟩ := key
    unfold mX1_isRoundTripAbove
    rw [isO_ok (σ := co B σ b a) s8]
    simp only [Option.bind_some, iL, hr]
    rcases hq with ⟨q1, rfl⟩ | ⟨q1, rfl⟩
    · exact Or.inl ⟨q1, rfl⟩
    · exact Or.inr ⟨q1, rfl⟩
  · rintro _ ⟨t, t1, rfl, t2⟩
    by_cases ct : t = P
    · refine Or.inr ⟨_, ?_, Or.inr ⟨by rw [← ct]; exact t2, rfl⟩⟩
      simp (disch := omega) only [mX1_isRoundTripAbove_L2, iI_le]
      rw [if_pos (by omega)]
    · have z0 : (iI (t : Int)).toNatClampNeg = t := by rw [iI_clamp (by omega) (by omega)]; omega
      have z1 : (iI ((t : Int) + 1)).toNatClampNeg = t + 1 := by rw [iI_clamp (by omega) (by omega)]; omega
      have hm : P - (iI ((t : Int) + 1)).toNatClampNeg < P - (iI (t : Int)).toNatClampNeg := by omega
      have b1 := ha (t * 9 + t) (by omega)
      have r1 : toI (aV 11 (co B σ b a) (B + 10) (iI ((t : Int) * 9 + t))) = some (iI (a (t * 9 + t))) := by
        rw [aI_ok (σ := co B σ b a) s10 co_10 (by omega) (by omega) (by omega), show ((t : Int) * 9 + t).toNat = t * 9 + t by omega]
      simp (disch := omega) only [mX1_isRoundTripAbove_L2, iI_le, p1, Option.bind_some, iL, iI_mul, iI_add, r1]
      rw [if_neg (by omega)]
      by_cases c : a (t * 9 + t) ≤ 0
      · rw [if_pos c]
        refine Or.inl ⟨_, rfl, ⟨t + 1, by omega, rfl, fun p hp => ?_⟩, hm⟩
        by_cases cp : p = t
        · rw [cp]; exact c
        · exact t2 p (by omega)
      · rw [if_neg c]
        exact Or.inr ⟨_, rfl, Or.inl ⟨⟨t, by omega, by omega⟩, rfl⟩⟩
/-- a holds the best trips of at most u arcs -/
def AfB (A : AS) (S u : Nat) (a : Nat → Int) : Prop := ∀ p q, p < wn A + 1 → q < wn A + 1 → (∃ L : List Ac, L.length ≤ u ∧ (∀ x, x ∈ L → aok A S x) ∧ a (p * 9 + q) = tv A p L q) ∧ ∀ L : List Ac, L.length ≤ u → (∀ x, x ∈ L → aok A S x) → tv A p L q ≤ a (p * 9 + q)
def AfM (A : AS) (S u : Nat) (D : Ac → Prop) (a : Nat → Int) : Prop := ∀ p q, p < wn A + 1 → q < wn A + 1 → (∃ L : List Ac, L.length ≤ u + 1 ∧ (∀ x, x ∈ L → aok A S x) ∧ a (p * 9 + q) = tv A p L q) ∧ (∀ L : List Ac, L.length ≤ u → (∀ x, x ∈ L → aok A S x) → tv A p L q ≤ a (p * 9 + q)) ∧ ∀ (L : List Ac) (x : Ac), L.length ≤ u → (∀ x, x ∈ L → aok A S x) → aok A S x → D x → tv A p (L ++ [x]) q ≤ a (p * 9 + q)
theorem ar_le (hA : Wf A) {S : Nat} {x : Ac} (h : aok A S x) : ar A x ≤ 1000000 := by
  have q := hA.2.2.2.1.2 x.1 h.1
  have q1 := q.2.2.2.2.2
  unfold ar
  split <;> omega
theorem tv_le (hA : Wf A) {S : Nat} : ∀ (L : List Ac) (p q : Nat), (∀ x, x ∈ L → aok A S x) → tv A p L q ≤ 1000000 * L.length
  | [], p, q, _ => by
    have hd := hA.1
    have := fv_R (day A) (by omega) p q
    show fv (day A) p q ≤ 1000000 * ((0 : Nat) : Int)
    omega
  | x :: L, p, q, h => by
    have hd := hA.1
    have ih := tv_le hA L (aj A x) q (fun y hy => h y (List.mem_cons_of_mem _ hy))
    have a1 := ar_le hA (h x (List.mem_cons_self))
    have f1 := fv_R (day A) (by omega) p (ai A x)
    show fv (day A) p (ai A x) + ar A x + tv A (aj A x) L q ≤ 1000000 * ((L.length + 1 : Nat) : Int)
    omega
theorem AfB.R (hA : Wf A) {S u : Nat} {a : Nat → Int} (h : AfB A S u a) {p q : Nat} (hp : p < wn A + 1) (hq : q < wn A + 1) : -2000 ≤ a (p * 9 + q) ∧ a (p * 9 + q) ≤ 1000000 * u := by
  have hd := hA.1
  obtain ⟨⟨L, l1, l2, l3⟩, h2⟩ := h p q hp hq
  have a1 := tv_le hA L p q l2
  have a2 := h2 [] (Nat.zero_le _) (fun x hx => by cases hx)
  have a3 : tv A p [] q = fv (day A) p q := rfl
  have f1 := fv_R (day A) (by omega) p q
  omega
theorem AfB.start {S : Nat} {a : Nat → Int} (h : ∀ p q, p < wn A + 1 → q < wn A + 1 → a (p * 9 + q) = fv (day A) p q) : AfB A S 0 a := by
  intro p q hp hq
  refine ⟨⟨[], Nat.le_refl 0, (fun x hx => by cases hx), h p q hp hq⟩, fun L l1 _ => ?_⟩
  have e : L = [] := List.eq_nil_of_length_eq_zero (by omega)
  subst e
  rw [h p q hp hq]
  exact Int.le_refl _
theorem AfB.begin {S u : Nat} {a : Nat → Int} (h : AfB A S u a) : AfM A S u (fun _ => False) a := by
  intro p q hp hq
  obtain ⟨⟨L, l1, l2, l3⟩, h2⟩ := h p q hp hq
  exact ⟨⟨L, by omega, l2, l3⟩, h2, fun _ _ _ _ _ z => z.elim⟩
theorem AfM.done {S u : Nat} {D : Ac → Prop} {a : Nat → Int} (h : AfM A S u D a) (hD : ∀ x, x.1 < fn A → D x) : AfB A S (u + 1) a := by
  intro p q hp hq
  obtain ⟨h1, h2, h3⟩ := h p q hp hq
  refine ⟨h1, fun L l1 l2 => ?_⟩
  by_cases c : L.length ≤ u
  · exact h2 L c l2
  · rcases List.eq_nil_or_concat L with rfl | ⟨L', x, rfl⟩
    · exact absurd (Nat.zero_le u) c
    · rw [List.concat_eq_append] at l1 l2 ⊢
      rw [List.length_append] at l1
      have l1 : L'.length + 1 ≤ u + 1 := l1
      have lx := l2 x (by simp)
      exact h3 L' x (by omega) (fun y hy => l2 y (List.mem_append_left _ hy)) lx (hD x lx.1)
theorem AfM.go (hA : Wf A) {S u : Nat} {D : Ac → Prop} {a b d : Nat → Int} (h : AfM A S u D a) (hb : AfB A S u b) (hd : ∀ p q, p < wn A + 1 → q < wn A + 1 → d (p * 9 + q) = fv (day A) p q) {x : Ac} (hf : x.1 < fn A) (hx : bt S x.1) : AfM A S u (fun y => D y ∨ y = x) (if -1000000 < ar A x then gov (wn A + 1) 0 (wn A + 1) a b d (aj A x) (ai A x) (ar A x) else a) := by
  by_cases c : -1000000 < ar A x
  · rw [if_pos c]
    have ax : aok A S x := ⟨hf, hx, c⟩
    have pt := aok_pt hA ax
    have h8 := hA.2.2.1.1
    intro p q hp hq
    obtain ⟨⟨L, l1, l2, l3⟩, h2, h3⟩ := h p q hp hq
    obtain ⟨⟨K, k1, k2, k3⟩, k4⟩ := hb p (ai A x) hp pt.1
    have e : gov (wn A + 1) 0 (wn A + 1) a b d (aj A x) (ai A x) (ar A x) (p * 9 + q) = max (a (p * 9 + q)) (b (p * 9 + ai A x) + ar A x + fv (day A) (aj A x) q) := by
      unfold gov
      rw [show (p * 9 + q) / 9 = p by omega, show (p * 9 + q) % 9 = q by omega, if_pos (by omega), hd (aj A x) q pt.2 hq]
    rw [e]
    have tvx : ∀ K : List Ac, tv A p (K ++ [x]) q = tv A p K (ai A x) + ar A x + fv (day A) (aj A x) q := fun K => tv_cut p K x [] q
    refine ⟨?_, fun L' a1 a2 => by have := h2 L' a1 a2; omega, fun L' y a1 a2 a3 a4 => ?_⟩
    · by_cases c2 : b (p * 9 + ai A x) + ar A x + fv (day A) (aj A x) q ≤ a (p * 9 + q)
      · exact ⟨L, l1, l2, by omega⟩
      · refine ⟨K ++ [x], by rw [List.length_append]; show K.length + 1 ≤ u + 1; omega, fun y hy => ?_, by rw [tvx K]; omega⟩
        rcases List.mem_append.mp hy with hy | hy
        · exact k2 y hy
        · rw [List.mem_singleton.mp hy]; exact ax
    · rcases a4 with a4 | rfl
      · have := h3 L' y a1 a2 a3 a4; omega
      · have := k4 L' a1 a2
        rw [tvx L']; omega
  · rw [if_neg c]
    intro p q hp hq
    obtain ⟨h1, h2, h3⟩ := h p q hp hq
    refine ⟨h1, h2, fun L' y a1 a2 a3 a4 => ?_⟩
    rcases a4 with a4 | rfl
    · exact h3 L' y a1 a2 a3 a4
    · exact absurd a3.2.2 c
end X63
