/-! ===== the reference's net: facts laid, closed ===== -/
section X58
variable {M n : Nat} {σ : Sg} {A : AS} {f : Nat → Int} {e : Nat → Int → Int} {X : Nat → Nat → Int} {R : Nat → Nat → Int → Prop}
theorem pn_w {w : Nat} (h : w < 8) : pn w = w + 1 := by unfold pn; rw [if_neg (by omega)]
theorem pn_8 : pn 8 = 0 := rfl
theorem m_above (hS : Msh M σ) (h : MH A f e) (hA : Wf A) (hL : Lay A R X) {a b c : Nat} (ha : a < wn A) (hb : b < wn A) (hc : c < 256) (hn : 100000 ≤ n) : mX10_above n (MX M σ f e X) M (iI a) (iI b) (iI c) = some (MX M σ f e (umx X b a (mad (wk A b) c - mad (wk A a) c + 1))) := by
  have W := mAll hS
  have h8 := hA.2.2.1.1
  have ma := mad_R A (hA.2.2.1.2 a ha) c
  have mb := mad_R A (hA.2.2.1.2 b hb) c
  have hX := hL.R (show b < 9 by omega) (show a < 9 by omega)
  unfold mX10_above
  simp (disch := omega) only [W, Option.bind_some, m_made hS (h.mx X) hA ha hc hn, m_made hS (h.mx X) hA hb hc hn, iI_sub, iL, iI_add, m_least (f := f) (e := e) hS (show b < 9 by omega) (show a < 9 by omega)]
/-- a fact's gaps, in the net -/
theorem m_add (hS : Msh M σ) (h : MH A f e) (hA : Wf A) (hL : Lay A R X) {k : Nat} (hk : k < fn A) (hn : 100000 ≤ n) : ∃ X', mX10_add n (MX M σ f e X) M (iI k) = some (MX M σ f e X') ∧ Lay A (arcR (arcR R (fc A k).2.2.1 (fc A k).2.1 (fc A k).2.2.2.1) (fc A k).2.1 (fc A k).2.2.1 (-(fc A k).2.2.2.2)) X' := by
  have W := mAll hS
  have h8 := hA.2.2.1.1
  have h20 := hA.2.2.2.1.1
  have hd := hA.1
  obtain ⟨-, a, a1, a2, a3, a4, a5, hq⟩ := (h.mx X).2.2.2.1.2 k hk
  have ea : ex A a := Or.inl a1
  have e8 : ex A 8 := Or.inr rfl
  have pa := pn_w (show a < 8 by omega)
  have i8 : iI ((8 : Nat) : Int) = iI 8 := rfl
  unfold mX10_add
  simp (disch := omega) only [W, Option.bind_some, a2]
  rcases hq with ⟨k1, ⟨b, b1, b2, b3, b4, b5, b6, b7⟩, b8⟩ | ⟨k1, b4, b7, b8⟩ | ⟨k1, b4, b7, b8⟩ | ⟨k1, b4, b7, b8, b9, b10⟩ | ⟨k1, ⟨b, b1, b2, b3, b4⟩, b7, b8⟩
  · obtain ⟨c, hc⟩ : ∃ c : Nat, (setR e 15 (dX (e 15) X)) 13 k = c := ⟨((setR e 15 (dX (e 15) X)) 13 k).toNat, by omega⟩
    rw [hc] at b7
    have ma := mad_R A (hA.2.2.1.2 a a1) c
    have mb := mad_R A (hA.2.2.1.2 b b1) c
    simp (disch := omega) only [k1, iL, iI_eq, if_true, W, Option.bind_some, hc, b3, m_above hS h hA hL a1 b1 (show c < 256 by omega) hn]
    refine ⟨_, rfl, ?_⟩
    have L1 := hL.add (p := b) (q := a) (v := mad (wk A b) c - mad (wk A a) c + 1) (Or.inl b1) ea b2 (by omega)
    rw [pa, pn_w (show b < 8 by omega), ← b4, ← a3, ← b7] at L1
    rw [← b7]
    refine L1.iff (fun i j v hv => ⟨fun q => Or.inl q, fun q => ?_⟩)
    rcases q with q | ⟨-, -, q⟩
    · exact q
    · omega
  · have k2 := m_least (n := n) (f := f) (e := e) hS (p := 8) (q := a) (v := (setR e 15 (dX (e 15) X)) 13 k + 1) (X := X) (by omega) (by omega) (by have := hL.R (show 8 < 9 by omega) (show a < 9 by omega); omega) (by omega)
    rw [i8] at k2
    simp (disch := omega) only [k1, iL, iI_eq, if_true, W, Option.bind_some, iI_add, k2]
    rw [if_neg (by omega)]
    refine ⟨_, rfl, ?_⟩
    have L1 := hL.add (p := 8) (q := a) (v := (setR e 15 (dX (e 15) X)) 13 k + 1) e8 ea (by omega) (by omega)
    rw [pa, pn_8, ← b4, ← a3, ← b7] at L1
    rw [← b7]
    refine L1.iff (fun i j v hv => ⟨fun q => Or.inl q, fun q => ?_⟩)
    rcases q with q | ⟨-, -, q⟩
    · exact q
    · omega
  · have k2 := m_least (n := n) (f := f) (e := e) hS (p := a) (q := 8) (v := -((setR e 15 (dX (e 15) X)) 13 k)) (X := X) (by omega) (by omega) (by have := hL.R (show a < 9 by omega) (show 8 < 9 by omega); omega) (by omega)
    rw [i8] at k2
    simp (disch := omega) only [k1, iL, iI_eq, if_true, W, Option.bind_some, iI_neg, k2]
    rw [if_neg (by omega), if_neg (by omega)]
    refine ⟨_, rfl, ?_⟩
    have L1 := hL.add (p := a) (q := 8) (v := -((setR e 15 (dX (e 15) X)) 13 k)) ea e8 (by omega) (by omega)
    rw [pa, pn_8, ← a3, ← b8] at L1
    rw [← b8, b4]
    refine L1.iff (fun i j v hv => ⟨fun q => ?_, fun q => ?_⟩)
    · rcases q with q | q
      · exact Or.inl (Or.inl q)
      · exact Or.inr q
    · rcases q with (q | ⟨-, -, q⟩) | q
      · exact Or.inl q
      · omega
      · exact Or.inr q
  · have k2 := m_least (n := n) (f := f) (e := e) hS (p := 8) (q := a) (v := (setR e 15 (dX (e 15) X)) 13 k) (X := X) (by omega) (by omega) (by have := hL.R (show 8 < 9 by omega) (show a < 9 by omega); omega) (by omega)
    have L1 := hL.add (p := 8) (q := a) (v := (setR e 15 (dX (e 15) X)) 13 k) e8 ea (by omega) (by omega)
    have k3 := m_least (n := n) (f := f) (e := e) hS (p := a) (q := 8) (v := -((setR e 15 (dX (e 15) X)) 14 k)) (X := umx X 8 a ((setR e 15 (dX (e 15) X)) 13 k)) (by omega) (by omega) (by have := L1.R (show a < 9 by omega) (show 8 < 9 by omega); omega) (by omega)
    have L2 := L1.add (p := a) (q := 8) (v := -((setR e 15 (dX (e 15) X)) 14 k)) ea e8 (by omega) (by omega)
    rw [i8] at k2 k3
    have e14 : ∀ Y, (setR e 15 (dX (e 15) Y)) 14 (k : Int) = (setR e 15 (dX (e 15) X)) 14 k := fun _ => rfl
    simp (disch := omega) only [k1, iL, iI_eq, if_true, W, Option.bind_some, k2]
    rw [if_neg (by omega), if_neg (by omega), if_neg (by omega)]
    simp (disch := omega) only [W, Option.bind_some, iI_neg, e14 (umx X 8 a ((setR e 15 (dX (e 15) X)) 13 k)), k3]
    refine ⟨_, rfl, ?_⟩
    rw [pa, pn_8] at L2
    rw [b4, a3, b7, b8]
    exact L2
  · have k2 := m_least (n := n) (f := f) (e := e) hS (p := b) (q := a) (v := (setR e 15 (dX (e 15) X)) 13 k) (X := X) (by omega) (by omega) (by have := hL.R (show b < 9 by omega) (show a < 9 by omega); omega) (by omega)
    simp (disch := omega) only [k1, iL, iI_eq, if_true, W, Option.bind_some, b3, k2]
    rw [if_neg (by omega), if_neg (by omega), if_neg (by omega), if_neg (by omega)]
    refine ⟨_, rfl, ?_⟩
    have L1 := hL.add (p := b) (q := a) (v := (setR e 15 (dX (e 15) X)) 13 k) (Or.inl b1) ea b2 (by omega)
    rw [pa, pn_w (show b < 8 by omega), ← b4, ← a3, ← b7] at L1
    rw [← b7]
    refine L1.iff (fun i j v hv => ⟨fun q => Or.inl q, fun q => ?_⟩)
    rcases q with q | ⟨-, -, q⟩
    · exact q
    · omega
theorem m_lay (hS : Msh M σ) (h : MH A f e) (hA : Wf A) {x : Int32} (hx : un x < 2147483648) (hn : 100000 ≤ n) : ∃ X, mX10_lay n (MW M σ f e) M x = some (MX M σ f e X) ∧ Lay A (conR A (un x) (fn A)) X := by
  have W := mAll hS
  have h20 := hA.2.2.2.1.1
  have key := loop_inv (body := mX10_lay_L6 n M x) (fun s => ∃ (t : Nat) (X : Nat → Nat → Int), t ≤ fn A ∧ s = (MX M σ f e X, iI (t : Int)) ∧ Lay A (conR A (un x) t) X) (fun s => fn A - s.2.toNatClampNeg)
    (fun s => ∃ X, s = MX M σ f e X ∧ Lay A (conR A (un x) (fn A)) X) ?_ n (MX M σ f e (bgX (day A) (wn A)), iI 0) ⟨0, _, by omega, rfl, (bgX_lay hA).iff (fun i j v _ => (conR_0 A (un x) i j v).symm)⟩ (by omega)
  · obtain ⟨r, hr, X, rfl, hL⟩ := key
    refine ⟨X, ?_, hL⟩
    unfold mX10_lay
    simp only [W, Option.bind_some, m_begin hS h hA hn, iL, hr]
  · rintro _ ⟨t, X, t1, rfl, hL⟩
    by_cases ct : t = fn A
    · refine Or.inr ⟨_, ?_, X, rfl, by rw [← ct]; exact hL⟩
      simp (disch := omega) only [mX10_lay_L6, W, Option.bind_some, h.2.2.2.1.1, iI_le]
      rw [if_pos (by omega)]
    · have z0 : (iI (t : Int)).toNatClampNeg = t := by rw [iI_clamp (by omega) (by omega)]; omega
      have z1 : (iI ((t : Int) + 1)).toNatClampNeg = t + 1 := by rw [iI_clamp (by omega) (by omega)]; omega
      have hm : fn A - (iI ((t : Int) + 1)).toNatClampNeg < fn A - (iI (t : Int)).toNatClampNeg := by omega
      obtain ⟨X', k1, k2⟩ := m_add (n := n) hS h hA hL (k := t) (by omega) hn
      simp (disch := omega) only [mX10_lay_L6, W, Option.bind_some, h.2.2.2.1.1, iI_le, iL, m_bt, k1, mX10_lay_28, iI_add]
      rw [if_neg (by omega)]
      by_cases cb : bt (un x) t
      · rw [if_pos cb]
        exact Or.inl ⟨_, rfl, ⟨t + 1, X', by omega, rfl, k2.iff (fun i j v _ => (conR_succ A (un x) t cb i j v).symm)⟩, hm⟩
      · rw [if_neg cb]
        exact Or.inl ⟨_, rfl, ⟨t + 1, X, by omega, rfl, hL.iff (fun i j v _ => (conR_skip A (un x) t cb i j v).symm)⟩, hm⟩
/-- a stage, row by row -/
def stP (X : Nat → Nat → Int) (m p q : Nat) : Nat → Nat → Int := fun i j => if i < p ∨ (i = p ∧ j < q) then stg X m i j else X i j
def Bx (X : Nat → Nat → Int) : Prop := ∀ i j, i < 9 → j < 9 → -100000000 ≤ X i j ∧ X i j ≤ 100000000
theorem stP_row {m p q : Nat} (h0 : X m m = 0) (j : Nat) : stP X m p q m j = X m j := by
  unfold stP stg
  by_cases c : m < p ∨ (m = p ∧ j < q)
  · rw [if_pos c]
    by_cases c2 : -1000000 < X m m ∧ -1000000 < X m j
    · rw [if_pos c2, h0]; omega
    · rw [if_neg c2]
  · rw [if_neg c]
theorem stP_col {m p q : Nat} (h0 : X m m = 0) (i : Nat) : stP X m p q i m = X i m := by
  unfold stP stg
  by_cases c : i < p ∨ (i = p ∧ m < q)
  · rw [if_pos c]
    by_cases c2 : -1000000 < X i m ∧ -1000000 < X m m
    · rw [if_pos c2, h0]; omega
    · rw [if_neg c2]
  · rw [if_neg c]
theorem stP_Bx {m p q : Nat} (hB : Bx X) (hm : m < 9) {i j : Nat} (hi : i < 9) (hj : j < 9) : -200000000 ≤ stP X m p q i j ∧ stP X m p q i j ≤ 200000000 := by
  have a := hB i j hi hj
  have b := hB i m hi hm
  have c := hB m j hm hj
  unfold stP stg
  repeat' split
  all_goals omega
theorem m_stage (hS : Msh M σ) {m : Nat} (hm : m < 9) (h0 : X m m = 0) (hB : Bx X) (hn : 100000 ≤ n) : loopM (mX10_close_L10 n M (iI m)) n (MX M σ f e X, iI 0) = some (MX M σ f e (stg X m)) := by
  have W := mAll hS
  have inner : ∀ p : Nat, p < 9 → loopM (mX10_close_L18 n M (iI m) (iI p)) n (MX M σ f e (stP X m p 0), iI 0) = some (MX M σ f e (stP X m (p + 1) 0)) := by
    intro p hp
    have e0 : (MX M σ f e (stP X m p 0), iI 0) = (fun t : Nat => (MX M σ f e (stP X m p t), iI (t : Int))) 0 := rfl
    rw [e0]
    refine loop_run (fun t : Nat => (MX M σ f e (stP X m p t), iI (t : Int))) 9 0 (fun t _ ht => ?_) ?_ n (by omega)
    · have ht9 : t < 9 := by omega
      have b1 := hB p m hp hm
      have b2 := hB m t hm ht9
      have b3 := stP_Bx (p := p) (q := t) hB hm hp ht9
      have k2 := m_least (n := n) (f := f) (e := e) hS (p := p) (q := t) (v := X p m + X m t) (X := stP X m p t) hp ht9 (by omega) (by omega)
      simp (disch := omega) only [mX10_close_L18, iL, iI_le, W, Option.bind_some, iI_mul, iI_add, setR_same, dX_at (e 15) (stP X m p t) hp hm, dX_at (e 15) (stP X m p t) hm ht9, stP_row h0, stP_col h0, iI_neg, k2, mX10_close_75]
      rw [if_neg (by omega)]
      have step : ∀ Y, (∀ i j, i < 9 → j < 9 → Y i j = stP X m p (t + 1) i j) → some (Sum.inl (MX M σ f e Y, iI ((t : Int) + 1))) = (some (Sum.inl (MX M σ f e (stP X m p (t + 1)), iI ((t + 1 : Nat) : Int))) : Option ((Sg × Int32) ⊕ Sg)) := fun Y hY => by rw [MX_X M σ f e hY]; rfl
      have same : ∀ i j, ¬ (i = p ∧ j = t) → stP X m p t i j = stP X m p (t + 1) i j := fun i j c => by
        unfold stP
        by_cases c1 : i < p ∨ (i = p ∧ j < t)
        · rw [if_pos c1, if_pos (by omega)]
        · rw [if_neg c1, if_neg (by omega)]
      have at1 : stP X m p t p t = X p t := by unfold stP; rw [if_neg (by omega)]
      have at2 : stP X m p (t + 1) p t = stg X m p t := by unfold stP; rw [if_pos (by omega)]
      by_cases c1 : X p m ≤ -1000000
      · rw [if_pos c1]
        refine step _ (fun i j _ _ => ?_)
        by_cases c : i = p ∧ j = t
        · rw [c.1, c.2, at1, at2]; unfold stg; rw [if_neg (by omega)]
        · exact same i j c
      · rw [if_neg c1]
        by_cases c2 : X m t ≤ -1000000
        · rw [if_pos c2]
          refine step _ (fun i j _ _ => ?_)
          by_cases c : i = p ∧ j = t
          · rw [c.1, c.2, at1, at2]; unfold stg; rw [if_neg (by omega)]
          · exact same i j c
        · rw [if_neg c2]
          refine step _ (fun i j _ _ => ?_)
          unfold umx
          by_cases c : i = p ∧ j = t
          · rw [if_pos c, c.1, c.2, at1, at2]; unfold stg; rw [if_pos (by omega)]
          · rw [if_neg c]; exact same i j c
    · simp (disch := omega) only [Nat.zero_add, mX10_close_L18, iL, iI_le]
      rw [if_pos (by omega), MX_X M σ f e (X := stP X m p 9) (X' := stP X m (p + 1) 0) (fun i j hi hj => ?_)]
      unfold stP
      by_cases c1 : i < p ∨ (i = p ∧ j < 9)
      · rw [if_pos c1, if_pos (by omega)]
      · rw [if_neg c1, if_neg (by omega)]
  have e0 : (MX M σ f e X, iI 0) = (fun t : Nat => (MX M σ f e (stP X m t 0), iI (t : Int))) 0 := by
    show _ = (MX M σ f e (stP X m 0 0), iI 0)
    rw [MX_X M σ f e (X := stP X m 0 0) (X' := X) (fun i j _ _ => by unfold stP; rw [if_neg (by omega)])]
  rw [e0]
  refine loop_run (fun t : Nat => (MX M σ f e (stP X m t 0), iI (t : Int))) 9 0 (fun t _ ht => ?_) ?_ n (by omega)
  · simp (disch := omega) only [mX10_close_L10, iL, iI_le, inner t (by omega), Option.bind_some, iI_add]
    rw [if_neg (by omega)]; rfl
  · simp (disch := omega) only [Nat.zero_add, mX10_close_L10, iL, iI_le]
    rw [if_pos (by omega), MX_X M σ f e (X := stP X m 9 0) (X' := stg X m) (fun i j hi hj => by unfold stP; rw [if_pos (by omega)])]
theorem m_diag (hS : Msh M σ) (hB : ∀ i, i < 9 → -2000000000 ≤ X i i ∧ X i i ≤ 2000000000) (hn : 100000 ≤ n) : ((∀ i, i < 9 → X i i ≤ 0) ∧ loopM (mX10_close_L89 n M) n (MX M σ f e X, iI 0) = some (.inl (MX M σ f e X))) ∨ ((∃ i, i < 9 ∧ 0 < X i i) ∧ loopM (mX10_close_L89 n M) n (MX M σ f e X, iI 0) = some (.inr (iI 0, MX M σ f e X))) := by
  have W := mAll hS
  have key := loop_inv (body := mX10_close_L89 n M) (fun s => ∃ t : Nat, t ≤ 9 ∧ s = (MX M σ f e X, iI (t : Int)) ∧ ∀ i, i < t → X i i ≤ 0) (fun s => 9 - s.2.toNatClampNeg)
    (fun r => ((∀ i, i < 9 → X i i ≤ 0) ∧ r = .inl (MX M σ f e X)) ∨ ((∃ i, i < 9 ∧ 0 < X i i) ∧ r = .inr (iI 0, MX M σ f e X))) ?_ n (MX M σ f e X, iI 0) ⟨0, by omega, rfl, fun i hi => by omega⟩ (by show 9 - _ < n; omega)
  · obtain ⟨r, hr, hq⟩ := key
    rcases hq with ⟨h1, rfl⟩ | ⟨h1, rfl⟩
    · exact Or.inl ⟨h1, hr⟩
    · exact Or.inr ⟨h1, hr⟩
  · rintro _ ⟨t, t1, rfl, t2⟩
    by_cases ct : t = 9
    · refine Or.inr ⟨_, ?_, Or.inl ⟨by rw [← ct]; exact t2, rfl⟩⟩
      simp (disch := omega) only [mX10_close_L89, iL, iI_le]
      rw [if_pos (by omega)]
    · have z0 : (iI (t : Int)).toNatClampNeg = t := by rw [iI_clamp (by omega) (by omega)]; omega
      have z1 : (iI ((t : Int) + 1)).toNatClampNeg = t + 1 := by rw [iI_clamp (by omega) (by omega)]; omega
      have hm : 9 - (iI ((t : Int) + 1)).toNatClampNeg < 9 - (iI (t : Int)).toNatClampNeg := by omega
      have hb := hB t (by omega)
      simp (disch := omega) only [mX10_close_L89, iL, iI_le, W, Option.bind_some, iI_mul, iI_add, setR_same, dX_at (e 15) X (show t < 9 by omega) (show t < 9 by omega)]
      rw [if_neg (by omega)]
      by_cases c : X t t ≤ 0
      · rw [if_pos c]
        refine Or.inl ⟨_, rfl, ⟨t + 1, by omega, rfl, fun i hi => ?_⟩, hm⟩
        by_cases ci : i = t
        · rw [ci]; exact c
        · exact t2 i (by omega)
      · rw [if_neg c]
        exact Or.inr ⟨_, rfl, Or.inr ⟨⟨t, by omega, by omega⟩, rfl⟩⟩
theorem FWI.Bx {m : Nat} {G : Nat → Nat → Prop} (h : FWI A R m X G) (hm : m ≤ 9) : Bx X := by
  intro i j hi hj
  have pw : (2 : Int) ^ m ≤ 512 := by
    rcases (show m = 0 ∨ m = 1 ∨ m = 2 ∨ m = 3 ∨ m = 4 ∨ m = 5 ∨ m = 6 ∨ m = 7 ∨ m = 8 ∨ m = 9 by omega) with rfl | rfl | rfl | rfl | rfl | rfl | rfl | rfl | rfl | rfl <;> decide
  by_cases g : G i j
  · have a := h.low hm hi hj g
    have b := ((h.1 i j hi hj).1 g).2
    omega
  · rw [(h.1 i j hi hj).2 g]; omega
theorem m_close (hS : Msh M σ) (hA : Wf A) (hL : Lay A R X) (hR : ∀ i j v, frR (day A) i j v → R i j v) (hn : 100000 ≤ n) :
    ∃ X', (mX10_close n (MX M σ f e X) M = some (iI 1, MX M σ f e X') ∧ LM (wn A + 1) R (fun i j => X' (nd i) (nd j))) ∨ (mX10_close n (MX M σ f e X) M = some (iI 0, MX M σ f e X') ∧ ∀ Y, ¬ CM (wn A + 1) R Y) := by
  have W := mAll hS
  have h8 := hA.2.2.1.1
  have key := loop_inv (body := mX10_close_L2 n M) (fun s => ∃ (t : Nat) (X' : Nat → Nat → Int) (G : Nat → Nat → Prop), t ≤ 9 ∧ s = (MX M σ f e X', iI (t : Int)) ∧ FWI A R t X' G) (fun s => 9 - s.2.toNatClampNeg)
    (fun r => ∃ X', (r = .inl (MX M σ f e X') ∧ LM (wn A + 1) R (fun i j => X' (nd i) (nd j))) ∨ (r = .inr (iI 0, MX M σ f e X') ∧ ∀ Y, ¬ CM (wn A + 1) R Y)) ?_ n (MX M σ f e X, iI 0) ⟨0, X, _, by omega, rfl, FWI.start hA hL⟩ (by show 9 - _ < n; omega)
  · obtain ⟨r, hr, X', hq⟩ := key
    refine ⟨X', ?_⟩
    unfold mX10_close
    simp only [W, Option.bind_some, iL, hr]
    rcases hq with ⟨rfl, hq⟩ | ⟨rfl, hq⟩
    · exact Or.inl ⟨rfl, hq⟩
    · exact Or.inr ⟨rfl, hq⟩
  · rintro _ ⟨t, X', G, t1, rfl, hF⟩
    by_cases ct : t = 9
    · subst ct
      refine Or.inr ⟨_, ?_, X', Or.inl ⟨rfl, hF.done hA hR⟩⟩
      simp (disch := omega) only [mX10_close_L2, iL, iI_le]
      rw [if_pos (by omega)]
    · have z0 : (iI (t : Int)).toNatClampNeg = t := by rw [iI_clamp (by omega) (by omega)]; omega
      have z1 : (iI ((t : Int) + 1)).toNatClampNeg = t + 1 := by rw [iI_clamp (by omega) (by omega)]; omega
      have hm : 9 - (iI ((t : Int) + 1)).toNatClampNeg < 9 - (iI (t : Int)).toNatClampNeg := by omega
      have ht9 : t < 9 := by omega
      have hB := hF.Bx t1
      have hsB : ∀ i, i < 9 → -2000000000 ≤ stg X' t i i ∧ stg X' t i i ≤ 2000000000 := fun i hi => by
        have a := hB i i hi hi
        have b := hB i t hi ht9
        have c := hB t i ht9 hi
        unfold stg
        split <;> omega
      simp (disch := omega) only [mX10_close_L2, iL, iI_le, m_stage (f := f) (e := e) hS ht9 (hF.2.1 t ht9).2 hB hn, Option.bind_some]
      rw [if_neg (by omega)]
      rcases m_diag (n := n) (f := f) (e := e) hS hsB hn with ⟨d1, d2⟩ | ⟨⟨i, i1, i2⟩, d2⟩
      · simp only [d2, Option.bind_some, iI_add]
        exact Or.inl ⟨_, rfl, ⟨t + 1, stg X' t, _, by omega, rfl, hF.step hA hR ht9 d1⟩, hm⟩
      · simp only [d2, Option.bind_some]
        refine Or.inr ⟨_, rfl, stg X' t, Or.inr ⟨rfl, fun Y hY => ?_⟩⟩
        have exi : ex A i := by
          rcases hF.stage ht9 i1 i1 with ⟨a, b, c⟩ | ⟨a, c⟩
          · by_cases d : i = t
            · have g0 := (hF.2.1 t ht9).2
              rw [d] at c
              rw [g0] at c
              rw [d, c] at i2
              omega
            · exact (hF.2.2.2.2.2 i t i1 ht9 d a).1
          · have g0 := (hF.2.1 i i1).2
            rw [c, g0] at i2
            omega
        have b := hF.below hA hR ht9 hY exi exi
        have y0 := hY.1 (pn i) (ex_pn hA exi).1
        omega
theorem conR_fr (S m : Nat) : ∀ i j v, frR (day A) i j v → conR A S m i j v := fun i j v h => Or.inl h
theorem m_canBe (hS : Msh M σ) (h : MH A f e) (hA : Wf A) {x : Int32} (hx : un x < 2147483648) (hn : 100000 ≤ n) :
    ∃ X, (mX10_canBe n (MW M σ f e) M x = some (iI 1, MX M σ f e X) ∧ LSx A (un x) (fun i j => X (nd i) (nd j))) ∨ (mX10_canBe n (MW M σ f e) M x = some (iI 0, MX M σ f e X) ∧ ¬ can A (un x) (fn A)) := by
  have W := mAll hS
  obtain ⟨X, h1, h2⟩ := m_lay (n := n) hS h hA hx hn
  obtain ⟨X', h3⟩ := m_close (n := n) (f := f) (e := e) hS hA h2 (conR_fr (un x) (fn A)) hn
  refine ⟨X', ?_⟩
  unfold mX10_canBe
  simp only [W, Option.bind_some, h1, iL]
  rcases h3 with ⟨h3, h4⟩ | ⟨h3, h4⟩
  · exact Or.inl ⟨by simp only [h3, Option.bind_some]; rw [if_pos (Or.inr trivial)], h4⟩
  · exact Or.inr ⟨by simp only [h3, Option.bind_some]; rw [if_pos (Or.inl trivial)], fun q => by obtain ⟨Y, hY⟩ := q; exact h4 Y hY⟩
end X58
