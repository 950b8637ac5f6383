/-! ===== the reference: queries of its net ===== -/
theorem nd_s (a : Nat) : nd (a + 1) = a := by unfold nd; rw [if_neg (by omega)]; rfl
theorem bt_mod (S k f : Nat) : bt (S % 2 ^ k) f ↔ f < k ∧ bt S f := by
  rw [bt_iff, bt_iff, Nat.testBit_mod_two_pow]
  simp
theorem maskL (x : Int32) {t : Nat} (ht : t < 30) : un (x &&& (iI 2 <<< (iI (t : Int) &&& iI 31) - iI 1)) = un x % 2 ^ (t + 1) := by
  have h1 := pk_shlN (n := 2) (iI (t : Int) &&& iI 31) t (shk t (by omega)) (by have := Nat.pow_lt_pow_right (a := 2) (by omega) (show t + 1 < 32 by omega); rw [Nat.pow_succ] at this; omega)
  have e2 : nI 2 = iI 2 := rfl
  have e3 : nI (2 * 2 ^ t) = iI ((2 * 2 ^ t : Nat) : Int) := iI_nat _
  rw [e2, e3] at h1
  have hp := Nat.two_pow_pos t
  rw [h1, iI_sub, show ((2 * 2 ^ t : Nat) : Int) - 1 = ((2 * 2 ^ t - 1 : Nat) : Int) by omega, un_and, un_iI (by have := Nat.pow_lt_pow_right (a := 2) (by omega) (show t + 1 < 32 by omega); rw [Nat.pow_succ] at this; omega), show 2 * 2 ^ t = 2 ^ (t + 1) by rw [Nat.pow_succ]; omega, Nat.and_two_pow_sub_one_eq_mod]
section X59
variable {M n : Nat} {σ : Sg} {A : AS} {f : Nat → Int} {e : Nat → Int → Int} {X : Nat → Nat → Int}
theorem MX_MX (X X' : Nat → Nat → Int) : MX M σ f (setR e 15 (dX (e 15) X)) X' = MX M σ f e X' := by
  have h : dX (setR e 15 (dX (e 15) X) 15) X' = dX (e 15) X' := by
    rw [setR_same]
    funext z
    unfold dX
    by_cases c : 0 ≤ z ∧ z < 81
    · rw [if_pos c, if_pos c]
    · rw [if_neg c, if_neg c, if_neg c]
  unfold MX
  rw [h, setR_setR]
theorem m_canBe' (hS : Msh M σ) (h : MH A f e) (hA : Wf A) {x : Int32} (hx : un x < 2147483648) (hn : 100000 ≤ n) (X0 : Nat → Nat → Int) :
    ∃ X, (mX10_canBe n (MX M σ f e X0) M x = some (iI 1, MX M σ f e X) ∧ LSx A (un x) (fun i j => X (nd i) (nd j))) ∨ (mX10_canBe n (MX M σ f e X0) M x = some (iI 0, MX M σ f e X) ∧ ¬ can A (un x) (fn A)) := by
  obtain ⟨X, hq⟩ := m_canBe (n := n) hS (h.mx X0) hA hx hn
  rw [MX_MX] at hq
  exact ⟨X, hq⟩
/-- the numbers of a closed net are small -/
def Sm (A : AS) (X : Nat → Nat → Int) : Prop := ∀ p q, ex A p → ex A q → -2000 ≤ X p q ∧ X p q ≤ 2000
theorem LSx.sm (hA : Wf A) {S : Nat} (h : LSx A S (fun i j => X (nd i) (nd j))) : Sm A X := by
  intro p q hp hq
  have hd := hA.1
  have e1 := ex_pn hA hp
  have e2 := ex_pn hA hq
  have a := h.1.within (conR_fr S (fn A)) (by omega) e1.1 e2.1
  have n1 : nd (pn p) = p := by
    unfold pn
    by_cases c : p = 8
    · rw [if_pos c, c]; rfl
    · rw [if_neg c, nd_s]
  have n2 : nd (pn q) = q := by
    unfold pn
    by_cases c : q = 8
    · rw [if_pos c, c]; rfl
    · rw [if_neg c, nd_s]
  have b : -(day A : Int) ≤ X (nd (pn p)) (nd (pn q)) ∧ X (nd (pn p)) (nd (pn q)) ≤ day A := a
  rw [n1, n2] at b
  omega
theorem mq_step (hS : Msh M σ) (h : MH A f e) (hA : Wf A) (x : Int32) (hn : 100000 ≤ n) {no : Int} {F : (Nat → Nat → Int) → Int → Prop} {cont : Int32 × Sg → Option (Int32 × Sg)} (hx : un x < 2 ^ fn A) (hno : ∀ s, cont (iI 0, s) = some (iI no, s))
    (hyes : ∀ X, Sm A X → LSx A (un x) (fun i j => X (nd i) (nd j)) → ∃ r f' e', cont (iI 1, MX M σ f e X) = some (iI r, MW M σ f' e') ∧ MH A f' e' ∧ F (fun i j => X (nd i) (nd j)) r) :
    ∃ r f' e', (mX10_canBe n (MW M σ f e) M x).bind cont = some (iI r, MW M σ f' e') ∧ MH A f' e' ∧ Qry A x no F r := by
  obtain ⟨X, hq⟩ := m_canBe (n := n) hS h hA (show un x < 2147483648 by have := set20 hA hx; omega) hn
  rcases hq with ⟨q1, q2⟩ | ⟨q1, q2⟩
  · obtain ⟨r, f', e', k1, k2, k3⟩ := hyes X (LSx.sm hA q2) q2
    exact ⟨r, f', e', by rw [q1]; exact k1, k2, Or.inl ⟨hx, _, q2, k3⟩⟩
  · exact ⟨no, f, _, by rw [q1]; exact hno _, h.mx X, Or.inr ⟨Or.inr q2, rfl⟩⟩
theorem mq_no {P : Prop} {no : Int} {F : (Nat → Nat → Int) → Int → Prop} {x : Int32} (hx : ¬ un x < 2 ^ fn A) : Two P no (Qry A x no F) no := by
  by_cases c : P
  · exact Or.inr ⟨c, Or.inr ⟨Or.inl hx, rfl⟩⟩
  · exact Or.inl ⟨c, rfl⟩
theorem m_gapLow (hS : Msh M σ) {a b : Nat} (ha : a < 9) (hb : b < 9) : mX10_gapLow n (MX M σ f e X) M (iI a) (iI b) = some (iI (X a b), MX M σ f e X) := by
  have W := mAll hS
  unfold mX10_gapLow
  simp (disch := omega) only [W, Option.bind_some, iL, iI_mul, iI_add, setR_same, dX_at (e 15) X ha hb]
theorem m_gapHigh (hS : Msh M σ) {a b : Nat} (ha : a < 9) (hb : b < 9) : mX10_gapHigh n (MX M σ f e X) M (iI a) (iI b) = some (iI (-X b a), MX M σ f e X) := by
  have W := mAll hS
  unfold mX10_gapHigh
  simp (disch := omega) only [W, Option.bind_some, iL, iI_mul, iI_add, iI_neg, setR_same, dX_at (e 15) X hb ha]
theorem m_low (hS : Msh M σ) {w : Nat} (hw : w < 9) : mX10_low n (MX M σ f e X) M (iI w) = some (iI (X 8 w), MX M σ f e X) := by
  have W := mAll hS
  have d := dX_at (e 15) X (p := 8) (q := w) (by omega) hw
  rw [show 9 * ((8 : Nat) : Int) + w = 72 + w by omega] at d
  unfold mX10_low
  simp (disch := omega) only [W, Option.bind_some, iL, iI_add, setR_same, d]
theorem m_high (hS : Msh M σ) {w : Nat} (hw : w < 9) : mX10_high n (MX M σ f e X) M (iI w) = some (iI (-X w 8), MX M σ f e X) := by
  have W := mAll hS
  have d := dX_at (e 15) X (p := w) (q := 8) hw (by omega)
  rw [show ((8 : Nat) : Int) = 8 from rfl] at d
  unfold mX10_high
  simp (disch := omega) only [W, Option.bind_some, iL, iI_mul, iI_add, iI_neg, setR_same, d]
theorem m_can (hS : Msh M σ) (h : MH A f e) (hA : Wf A) (x : Int32) (hn : 100000 ≤ n) : ∃ r f' e', mX10_can n (MW M σ f e) M x = some (iI r, MW M σ f' e') ∧ MH A f' e' ∧ ((¬ un x < 2 ^ fn A ∧ r = -1) ∨ (un x < 2 ^ fn A ∧ can A (un x) (fn A) ∧ r = 1) ∨ (un x < 2 ^ fn A ∧ ¬ can A (un x) (fn A) ∧ r = 0)) := by
  have W := mAll hS
  unfold mX10_can
  simp only [W, Option.bind_some, m_isSet hS h hA x, iL, iI_neg, bI_0]
  by_cases c : un x < 2 ^ fn A
  · rw [if_neg (fun q => q c)]
    obtain ⟨X, hq⟩ := m_canBe (n := n) hS h hA (show un x < 2147483648 by have := set20 hA c; omega) hn
    rcases hq with ⟨q1, q2⟩ | ⟨q1, q2⟩
    · simp only [q1, Option.bind_some]
      rw [if_neg (by decide)]
      exact ⟨1, f, _, rfl, h.mx X, Or.inr (Or.inl ⟨c, ⟨_, q2.1⟩, rfl⟩)⟩
    · simp only [q1, Option.bind_some, if_true]
      exact ⟨0, f, _, rfl, h.mx X, Or.inr (Or.inr ⟨c, q2, rfl⟩)⟩
  · rw [if_pos c]
    exact ⟨-1, f, e, rfl, h, Or.inl ⟨c, rfl⟩⟩
theorem can_mask {S k : Nat} (hk : k ≤ fn A) : can A (S % 2 ^ k) (fn A) ↔ can A S k := by
  have key : ∀ i j v, conR A (S % 2 ^ k) (fn A) i j v ↔ conR A S k i j v := by
    intro i j v
    unfold conR
    constructor
    · rintro (q | ⟨g, g1, g2, g3⟩)
      · exact Or.inl q
      · have := (bt_mod S k g).mp g2
        exact Or.inr ⟨g, this.1, this.2, g3⟩
    · rintro (q | ⟨g, g1, g2, g3⟩)
      · exact Or.inl q
      · exact Or.inr ⟨g, by omega, (bt_mod S k g).mpr ⟨g1, g2⟩, g3⟩
  constructor
  · rintro ⟨Y, hY⟩
    exact ⟨Y, (CM.iff key Y).mp hY⟩
  · rintro ⟨Y, hY⟩
    exact ⟨Y, (CM.iff key Y).mpr hY⟩
theorem can_0 (hA : Wf A) (S : Nat) : can A S 0 := by
  have hd := hA.1
  exact ⟨_, ((CM.iff (fun i j v => conR_0 A S i j v) _).mpr (LM.free (wn A + 1) (day := (day A : Int)) (by omega)).1)⟩
theorem can_skip {S m : Nat} (hb : ¬ bt S m) (h : can A S m) : can A S (m + 1) := by
  obtain ⟨Y, hY⟩ := h
  exact ⟨Y, (CM.iff (fun i j v => conR_skip A S m hb i j v) Y).mpr hY⟩
theorem m_bars (hS : Msh M σ) (h : MH A f e) (hA : Wf A) (x : Int32) (hn : 100000 ≤ n) : ∃ r f' e', mX10_bars n (MW M σ f e) M x = some (iI r, MW M σ f' e') ∧ MH A f' e' ∧ Bars A x r := by
  have W := mAll hS
  have h20 := hA.2.2.2.1.1
  unfold mX10_bars
  simp only [W, Option.bind_some, m_isSet hS h hA x, iL, iI_neg, bI_0]
  by_cases c : un x < 2 ^ fn A
  · rw [if_neg (fun q => q c)]
    have hx := set20 hA c
    obtain ⟨X, hq⟩ := m_canBe (n := n) hS h hA (show un x < 2147483648 by omega) hn
    rcases hq with ⟨q1, q2⟩ | ⟨q1, q2⟩
    · simp only [q1, Option.bind_some]
      rw [if_neg (by decide)]
      exact ⟨-1, f, _, rfl, h.mx X, Or.inl ⟨Or.inr ⟨_, q2.1⟩, rfl⟩⟩
    · simp only [q1, Option.bind_some, if_true]
      have key := loop_inv (body := mX10_bars_L20 n M x) (fun s => ∃ (t : Nat) (X : Nat → Nat → Int), t ≤ fn A ∧ s = (MX M σ f e X, iI (t : Int)) ∧ can A (un x) t) (fun s => fn A - s.2.toNatClampNeg)
        (fun r => ∃ (m : Nat) (X : Nat → Nat → Int), m < fn A ∧ bt (un x) m ∧ can A (un x) m ∧ ¬ can A (un x) (m + 1) ∧ r = .inr (iI m, MX M σ f e X)) ?_ n (MX M σ f e X, iI 0) ⟨0, X, by omega, rfl, can_0 hA _⟩ (by show fn A - _ < n; omega)
      · obtain ⟨r, hr, m, X', m1, m2, m3, m4, rfl⟩ := key
        simp only [hr, Option.bind_some]
        exact ⟨m, f, _, rfl, h.mx X', Or.inr ⟨c, m, m1, m2, m3, m4, rfl⟩⟩
      · rintro _ ⟨t, X', t1, rfl, hC⟩
        by_cases ct : t = fn A
        · exact absurd (ct ▸ hC) q2
        · have z0 : (iI (t : Int)).toNatClampNeg = t := by rw [iI_clamp (by omega) (by omega)]; omega
          have z1 : (iI ((t : Int) + 1)).toNatClampNeg = t + 1 := by rw [iI_clamp (by omega) (by omega)]; omega
          have hm : fn A - (iI ((t : Int) + 1)).toNatClampNeg < fn A - (iI (t : Int)).toNatClampNeg := by omega
          have mk := maskL x (show t < 30 by omega)
          have ml : un x % 2 ^ (t + 1) ≤ un x := Nat.mod_le _ _
          obtain ⟨X2, k1⟩ := m_canBe' (n := n) hS h hA (x := x &&& (iI 2 <<< (iI (t : Int) &&& iI 31) - iI 1)) (by rw [mk]; omega) hn X'
          rw [mk] at k1
          simp (disch := omega) only [mX10_bars_L20, W, Option.bind_some, h.2.2.2.1.1, iI_le, iL, m_bt, mX10_bars_53, iI_add]
          rw [if_neg (by omega)]
          by_cases cb : bt (un x) t
          · rw [if_pos cb]
            rcases k1 with ⟨k1, k2⟩ | ⟨k1, k2⟩
            · simp only [k1, Option.bind_some]
              rw [if_neg (by decide)]
              exact Or.inl ⟨_, rfl, ⟨t + 1, X2, by omega, rfl, (can_mask (by omega)).mp ⟨_, k2.1⟩⟩, hm⟩
            · simp only [k1, Option.bind_some, if_true]
              exact Or.inr ⟨_, rfl, t, X2, by omega, cb, hC, fun q => k2 ((can_mask (by omega)).mpr q), rfl⟩
          · rw [if_neg cb]
            exact Or.inl ⟨_, rfl, ⟨t + 1, X', by omega, rfl, can_skip cb hC⟩, hm⟩
  · rw [if_pos c]
    exact ⟨-1, f, e, rfl, h, Or.inl ⟨Or.inl c, rfl⟩⟩
theorem m_begins (hS : Msh M σ) (h : MH A f e) (hA : Wf A) (x : Int32) {w what : Int} (hw : RI w) (hq : RI what) (hn : 100000 ≤ n) : ∃ r f' e', mX10_begins n (MW M σ f e) M x (iI w) (iI what) = some (iI r, MW M σ f' e') ∧ MH A f' e' ∧ Begins A x w what r := by
  have W := mAll hS
  have h8 := hA.2.2.1.1
  have Ww := m_isWalk (n := n) hS h hA hw
  unfold mX10_begins
  unfold RI at hw hq
  simp (disch := omega) only [W, Option.bind_some, m_isSet hS h hA x, Ww, m_in, iL, iI_neg, bI_0]
  have fin : ∀ r f' e', MH A f' e' → (¬ ((0 ≤ what ∧ what ≤ 1) ∧ isW A w) → r = -1) → ((0 ≤ what ∧ what ≤ 1) ∧ isW A w → Qry A x (-1) (FBeg A w what) r) → Begins A x w what r := fun r f' e' _ k1 k2 => by
    by_cases c : (0 ≤ what ∧ what ≤ 1) ∧ isW A w
    · exact Or.inr ⟨c.1, c.2, k2 c⟩
    · refine Or.inl ⟨?_, k1 c⟩
      by_cases c2 : 0 ≤ what ∧ what ≤ 1
      · exact Or.inr (fun q => c ⟨c2, q⟩)
      · exact Or.inl c2
  by_cases c : un x < 2 ^ fn A
  · rw [if_neg (fun q => q c)]
    by_cases c1 : 0 ≤ w ∧ w < wn A
    · rw [if_neg (fun q => q c1)]
      by_cases c2 : 0 ≤ what ∧ what ≤ 1
      · rw [if_neg (fun q => q c2)]
        obtain ⟨v, v1, v2, v3⟩ := isW.nat c1
        obtain ⟨r, f', e', k1, k2, k3⟩ := mq_step (n := n) hS h hA x hn (no := -1) (F := FBeg A w what) (cont := fun q => if q.1 = iI 0 then some (iI (-1), q.2) else if iI what = iI 0 then (mX10_low n q.2 M (iI w)).bind fun q => some (q.1, q.2) else (mX10_high n q.2 M (iI w)).bind fun q => some (q.1, q.2)) c (fun s => rfl) (fun X hX hL => by
          simp (disch := omega) only [iI_eq, v2, m_low hS (show v < 9 by omega), m_high hS (show v < 9 by omega), Option.bind_some]
          rw [if_neg (by decide)]
          by_cases c3 : what = 0
          · rw [if_pos c3]
            refine ⟨_, f, _, rfl, h.mx X, ?_⟩
            unfold FBeg
            rw [if_pos c3]
            rfl
          · rw [if_neg c3]
            refine ⟨_, f, _, rfl, h.mx X, ?_⟩
            unfold FBeg
            rw [if_neg c3]
            rfl)
        exact ⟨r, f', e', k1, k2, fin r f' e' k2 (fun q => absurd ⟨c2, c1⟩ q) (fun _ => k3)⟩
      · rw [if_pos c2]
        exact ⟨-1, f, e, rfl, h, fin _ f e h (fun _ => rfl) (fun q => absurd q.1 c2)⟩
    · rw [if_pos c1]
      exact ⟨-1, f, e, rfl, h, fin _ f e h (fun _ => rfl) (fun q => absurd q.2 c1)⟩
  · rw [if_pos c]
    exact ⟨-1, f, e, rfl, h, fin _ f e h (fun _ => rfl) (fun q => Or.inr ⟨Or.inl c, rfl⟩)⟩
theorem m_gap (hS : Msh M σ) (h : MH A f e) (hA : Wf A) (x : Int32) {a b what : Int} (ha : RI a) (hb : RI b) (hq : RI what) (hn : 100000 ≤ n) : ∃ r f' e', mX10_gap n (MW M σ f e) M x (iI a) (iI b) (iI what) = some (iI r, MW M σ f' e') ∧ MH A f' e' ∧ Two ((0 ≤ what ∧ what ≤ 1) ∧ isW A a ∧ isW A b) (-100000) (Qry A x (-100000) (FGap a b what)) r := by
  have W := mAll hS
  have h8 := hA.2.2.1.1
  have Wa := m_isWalk (n := n) hS h hA ha
  have Wb := m_isWalk (n := n) hS h hA hb
  have no : ∀ s, mX10_gap_65 n s = some (iI (-100000), s) := fun s => rfl
  unfold mX10_gap
  unfold RI at ha hb hq
  simp (disch := omega) only [W, Option.bind_some, m_isSet hS h hA x, Wa, Wb, m_in, iL, iI_neg, bI_0, no]
  by_cases c : un x < 2 ^ fn A
  · rw [if_neg (fun q => q c)]
    by_cases c1 : 0 ≤ a ∧ a < wn A
    · rw [if_neg (fun q => q c1)]
      by_cases c2 : 0 ≤ b ∧ b < wn A
      · rw [if_neg (fun q => q c2)]
        by_cases c3 : 0 ≤ what ∧ what ≤ 1
        · rw [if_neg (fun q => q c3)]
          obtain ⟨v, v1, v2, v3⟩ := isW.nat c1
          obtain ⟨w, w1, w2, w3⟩ := isW.nat c2
          obtain ⟨r, f', e', k1, k2, k3⟩ := mq_step (n := n) hS h hA x hn (no := -100000) (F := FGap a b what) (cont := fun q => if q.1 = iI 0 then some (iI (-100000), q.2) else if iI what = iI 0 then (mX10_gapLow n q.2 M (iI a) (iI b)).bind fun q => some (q.1, q.2) else (mX10_gapHigh n q.2 M (iI a) (iI b)).bind fun q => some (q.1, q.2)) c (fun s => rfl) (fun X hX hL => by
            simp (disch := omega) only [iI_eq, v2, w2, m_gapLow hS (show v < 9 by omega) (show w < 9 by omega), m_gapHigh hS (show v < 9 by omega) (show w < 9 by omega), Option.bind_some]
            rw [if_neg (by decide)]
            by_cases c4 : what = 0
            · rw [if_pos c4]
              refine ⟨_, f, _, rfl, h.mx X, ?_⟩
              unfold FGap
              rw [if_pos c4]
              rfl
            · rw [if_neg c4]
              refine ⟨_, f, _, rfl, h.mx X, ?_⟩
              unfold FGap
              rw [if_neg c4]
              rfl)
          exact ⟨r, f', e', k1, k2, Or.inr ⟨⟨c3, c1, c2⟩, k3⟩⟩
        · rw [if_pos c3]
          exact ⟨-100000, f, e, rfl, h, Or.inl ⟨fun q => c3 q.1, rfl⟩⟩
      · rw [if_pos c2]
        exact ⟨-100000, f, e, rfl, h, Or.inl ⟨fun q => c2 q.2.2, rfl⟩⟩
    · rw [if_pos c1]
      exact ⟨-100000, f, e, rfl, h, Or.inl ⟨fun q => c1 q.2.1, rfl⟩⟩
  · rw [if_pos c]
    exact ⟨-100000, f, e, rfl, h, mq_no c⟩
theorem m_ahead (hS : Msh M σ) (h : MH A f e) (hA : Wf A) (x : Int32) {a b : Int} (ha : RI a) (hb : RI b) (hn : 100000 ≤ n) : ∃ r f' e', mX10_ahead n (MW M σ f e) M x (iI a) (iI b) = some (iI r, MW M σ f' e') ∧ MH A f' e' ∧ Two (isW A a ∧ isW A b) (-1) (Qry A x (-1) (FAhead a b)) r := by
  have W := mAll hS
  have h8 := hA.2.2.1.1
  have Wa := m_isWalk (n := n) hS h hA ha
  have Wb := m_isWalk (n := n) hS h hA hb
  unfold mX10_ahead
  unfold RI at ha hb
  simp (disch := omega) only [W, Option.bind_some, m_isSet hS h hA x, Wa, Wb, iL, iI_neg, bI_0]
  by_cases c : un x < 2 ^ fn A
  · rw [if_neg (fun q => q c)]
    by_cases c1 : 0 ≤ a ∧ a < wn A
    · rw [if_neg (fun q => q c1)]
      by_cases c2 : 0 ≤ b ∧ b < wn A
      · rw [if_neg (fun q => q c2)]
        obtain ⟨v, v1, v2, v3⟩ := isW.nat c1
        obtain ⟨w, w1, w2, w3⟩ := isW.nat c2
        obtain ⟨r, f', e', k1, k2, k3⟩ := mq_step (n := n) hS h hA x hn (no := -1) (F := FAhead a b) (cont := fun q => if q.1 = iI 0 then some (iI (-1), q.2) else (mX10_gapLow n q.2 M (iI a) (iI b)).bind fun q => if q.1 ≤ iI 0 then (mX10_gapHigh n q.2 M (iI a) (iI b)).bind fun q => if iI 0 < q.1 then some (iI (-1), q.2) else some (iI 0, q.2) else some (iI 1, q.2)) c (fun s => rfl) (fun X hX hL => by
          have b1 := hX v w (Or.inl v1) (Or.inl w1)
          have b2 := hX w v (Or.inl w1) (Or.inl v1)
          simp (disch := omega) only [v2, w2, m_gapLow hS (show v < 9 by omega) (show w < 9 by omega), m_gapHigh hS (show v < 9 by omega) (show w < 9 by omega), Option.bind_some, iI_le, iI_lt]
          rw [if_neg (by decide)]
          have ev : verd (fun i j => X (nd i) (nd j)) w v 1 = if 1 ≤ X v w then 1 else if -X w v < 1 then 0 else -1 := rfl
          have eF : ∀ r, r = verd (fun i j => X (nd i) (nd j)) w v 1 → FAhead (v : Int) (w : Int) (fun i j => X (nd i) (nd j)) r := fun r hr => hr
          by_cases c4 : X v w ≤ 0
          · rw [if_pos c4]
            by_cases c5 : 0 < -X w v
            · rw [if_pos c5]
              exact ⟨_, f, _, rfl, h.mx X, eF _ (by rw [ev, if_neg (by omega), if_neg (by omega)])⟩
            · rw [if_neg c5]
              exact ⟨_, f, _, rfl, h.mx X, eF _ (by rw [ev, if_neg (by omega), if_pos (by omega)])⟩
          · rw [if_neg c4]
            exact ⟨_, f, _, rfl, h.mx X, eF _ (by rw [ev, if_pos (by omega)])⟩)
        exact ⟨r, f', e', k1, k2, Or.inr ⟨⟨c1, c2⟩, k3⟩⟩
      · rw [if_pos c2]
        exact ⟨-1, f, e, rfl, h, Or.inl ⟨fun q => c2 q.2, rfl⟩⟩
    · rw [if_pos c1]
      exact ⟨-1, f, e, rfl, h, Or.inl ⟨fun q => c1 q.1, rfl⟩⟩
  · rw [if_pos c]
    exact ⟨-1, f, e, rfl, h, mq_no c⟩
theorem m_sureOf (hS : Msh M σ) (h : MH A f e) (hA : Wf A) (hX : Sm A X) {a b k : Nat} (ha : a < wn A) (hb : b < wn A) (hk : k < 256) (hn : 100000 ≤ n) : mX10_sureOf n (MX M σ f e X) M (iI a) (iI b) (iI k) = some (iI (verd (fun i j => X (nd i) (nd j)) a b (lea A a b k)), MX M σ f e X) := by
  have W := mAll hS
  have h8 := hA.2.2.1.1
  have b1 := hX a b (Or.inl ha) (Or.inl hb)
  have b2 := hX b a (Or.inl hb) (Or.inl ha)
  have ma := mad_R A (hA.2.2.1.2 a ha) k
  have mb := mad_R A (hA.2.2.1.2 b hb) k
  unfold mX10_sureOf
  simp (disch := omega) only [W, Option.bind_some, m_made hS (h.mx X) hA ha hk hn, m_made hS (h.mx X) hA hb hk hn, iI_sub, nm, m_gapLow hS (show b < 9 by omega) (show a < 9 by omega), m_gapHigh hS (show b < 9 by omega) (show a < 9 by omega), iI_add, iL, iI_neg, iI_le, iI_lt]
  have ev : verd (fun i j => X (nd i) (nd j)) a b (lea A a b k) = if mad (wk A b) k - mad (wk A a) k + 1 ≤ X b a then 1 else if -X a b < mad (wk A b) k - mad (wk A a) k + 1 then 0 else -1 := rfl
  rw [ev]
  by_cases c4 : X b a + (mad (wk A a) k - mad (wk A b) k) ≤ 0
  · rw [if_pos c4]
    by_cases c5 : 0 < -X a b + (mad (wk A a) k - mad (wk A b) k)
    · rw [if_pos c5, if_neg (by omega), if_neg (by omega)]
    · rw [if_neg c5, if_neg (by omega), if_pos (by omega)]
  · rw [if_neg c4, if_pos (by omega)]
theorem m_sure (hS : Msh M σ) (h : MH A f e) (hA : Wf A) (x : Int32) {a b y z : Int} (ha : RI a) (hb : RI b) (hy : RI y) (hz : RI z) (hn : 100000 ≤ n) : ∃ r f' e', mX10_sure n (MW M σ f e) M x (iI a) (iI b) (iI y) (iI z) = some (iI r, MW M σ f' e') ∧ MH A f' e' ∧ Two (crs A a b (cAt A y z)) (-1) (Qry A x (-1) (FSure A a b (cAt A y z))) r := by
  have W := mAll hS
  have h8 := hA.2.2.1.1
  have h1 := hA.1
  unfold mX10_sure
  simp only [W, Option.bind_some, m_isSet hS h hA x, m_areTwo hS h hA ha hb, m_isCell hS h hA hy hz, iL, iI_neg, bI_0, iI_mul, iI_add]
  by_cases c : un x < 2 ^ fn A
  · rw [if_neg (fun q => q c)]
    by_cases c1 : isW A a ∧ isW A b ∧ a ≠ b
    · rw [if_neg (fun q => q c1)]
      by_cases c2 : 0 ≤ y ∧ y < wide A ∧ 0 ≤ z ∧ z < deep A
      · rw [if_neg (fun q => q c2)]
        obtain ⟨v, v1, v2, v3⟩ := isW.nat c1.1
        obtain ⟨w, w1, w2, w3⟩ := isW.nat c1.2.1
        have ec : cAt A y z = 16 * z + y := by unfold cAt; rw [if_pos c2]
        obtain ⟨k, hk⟩ : ∃ k : Nat, 16 * z + y = k := ⟨(16 * z + y).toNat, by omega⟩
        have hk2 : k < 256 := by omega
        rw [ec, hk]
        simp only [v2, w2, m_cross hS h hA v1 w1 hk2 hn, Option.bind_some, bI_0]
        have cr : both (wk A v) (wk A w) k ↔ crs A (v : Int) (w : Int) (k : Int) := by
          have q1 := lIn_nat (wk A v) hk2
          have q2 := lIn_nat (wk A w) hk2
          constructor
          · intro q
            exact ⟨by have := c1.2.2; omega, ⟨by omega, by show lIn (wk A v) k ≠ -1; rw [q1]; exact q.1⟩, ⟨by omega, by show lIn (wk A w) k ≠ -1; rw [q2]; exact q.2⟩⟩
          · intro q
            refine ⟨?_, ?_⟩
            · have := q.2.1.2
              rw [← q1]; exact this
            · have := q.2.2.2
              rw [← q2]; exact this
        by_cases c3 : both (wk A v) (wk A w) k
        · rw [if_neg (fun q => q c3)]
          obtain ⟨r, f', e', k1, k2, k3⟩ := mq_step (n := n) hS h hA x hn (no := -1) (F := FSure A (v : Int) (w : Int) (k : Int)) (cont := fun q => if q.1 = iI 0 then some (iI (-1), q.2) else (mX10_sureOf n q.2 M (iI v) (iI w) (iI k)).bind fun q => some (q.1, q.2)) c (fun s => rfl) (fun X hX hL => by
            simp only [m_sureOf hS h hA hX v1 w1 hk2 hn, Option.bind_some]
            rw [if_neg (by decide)]
            exact ⟨_, f, _, rfl, h.mx X, rfl⟩)
          exact ⟨r, f', e', k1, k2, Or.inr ⟨cr.mp c3, k3⟩⟩
        · rw [if_pos c3]
          exact ⟨-1, f, e, rfl, h, Or.inl ⟨fun q => c3 (cr.mpr q), rfl⟩⟩
      · rw [if_pos c2]
        exact ⟨-1, f, e, rfl, h, Or.inl ⟨fun q => q.2.1.2 (by unfold cAt; rw [if_neg c2]; exact lIn_m1 _), rfl⟩⟩
    · rw [if_pos c1]
      exact ⟨-1, f, e, rfl, h, Or.inl ⟨fun q => c1 ⟨q.2.1.1, q.2.2.1, q.1⟩, rfl⟩⟩
  · rw [if_pos c]
    exact ⟨-1, f, e, rfl, h, mq_no c⟩
end X59
