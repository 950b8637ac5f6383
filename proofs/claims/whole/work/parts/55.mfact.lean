/-! ===== the reference: fact, photo, told ===== -/
theorem updZ_same (f : Nat → Int) (k : Nat) (v : Int) : updZ f k v k = v := by unfold updZ; rw [if_pos rfl]
section X55
variable {M n : Nat} {σ : Sg} {A : AS} {f : Nat → Int} {e : Nat → Int → Int}
theorem MH.tail (h : MH A f e) {r : Nat} (hr : 9 ≤ r ∧ r ≤ 14) (v : Int) : MH A f (ups e r (fn A) v) := by
  obtain ⟨q1, q2, q3, q4, q5⟩ := h
  have hne : ∀ j, j ≠ r → ups e r (fn A) v j = e j := fun j hj => by unfold ups; rw [if_neg hj]
  have hat : ∀ j, ∀ k : Nat, k < fn A → ups e r (fn A) v j (k : Int) = e j k := fun j k hk => by
    by_cases c : j = r
    · subst c
      unfold ups upj
      rw [if_pos rfl, if_neg (by omega)]
    · rw [hne j c]
  refine ⟨⟨q1.1, q1.2.1, q1.2.2.1, fun k hk => by rw [hne 8 (by omega)]; exact q1.2.2.2 k hk⟩, ⟨q2.1, fun k hk => by rw [hne 1 (by omega)]; exact q2.2 k hk⟩, ⟨q3.1, fun w hw => (q3.2 w hw).same (hne 4 (by omega)) (hne 5 (by omega)) (hne 6 (by omega)) (hne 7 (by omega)) (hne 8 (by omega))⟩, ⟨q4.1, fun k hk => ?_⟩, ⟨q5.1, fun k hk => by rw [hne 17 (by omega)]; exact q5.2 k hk⟩⟩
  rw [hat 9 k hk, hat 10 k hk, hat 11 k hk, hat 12 k hk, hat 13 k hk, hat 14 k hk]
  exact q4.2 k hk
theorem MH.grow (h : MH A f e) {q : Fc} (hq : FcM A q (e 9 (fn A)) (e 10 (fn A)) (e 11 (fn A)) (e 12 (fn A)) (e 13 (fn A)) (e 14 (fn A))) : MH (addF A q) (updZ f 27 ((fn A : Int) + 1)) e := by
  obtain ⟨q1, q2, q3, q4, q5⟩ := h
  refine ⟨q1, q2, q3, ⟨rfl, fun k hk => ?_⟩, q5⟩
  have hk : k < fn A + 1 := hk
  show FcM _ (if k = fn A then q else fc A k) _ _ _ _ _ _
  by_cases c : k = fn A
  · rw [if_pos c, c]
    exact hq.congr (Nat.le_refl _) (fun _ _ _ => rfl)
  · rw [if_neg c]
    exact (q4.2 k (by omega)).congr (Nat.le_refl _) (fun _ _ _ => rfl)
/-- the rows of a fact written behind the others -/
def e6 (A : AS) (e : Nat → Int → Int) (who kind a oth fs sn : Int) : Nat → Int → Int := ups (ups (ups (ups (ups (ups e 9 (fn A) who) 10 (fn A) kind) 11 (fn A) a) 12 (fn A) oth) 13 (fn A) fs) 14 (fn A) sn
theorem MH.e6 (h : MH A f e) {q : Fc} {who kind a oth fs sn : Int} (hq : FcM A q who kind a oth fs sn) : MH (addF A q) (updZ f 27 ((fn A : Int) + 1)) (e6 A e who kind a oth fs sn) := by
  refine MH.grow ((((((h.tail (r := 9) (by omega) who).tail (r := 10) (by omega) kind).tail (r := 11) (by omega) a).tail (r := 12) (by omega) oth).tail (r := 13) (by omega) fs).tail (r := 14) (by omega) sn) ?_
  have s : ∀ (d : Int → Int) (z v : Int), upj d z v z = v := fun d z v => by unfold upj; rw [if_pos rfl]
  show FcM A q (upj (e 9) (fn A) who (fn A)) (upj (e 10) (fn A) kind (fn A)) (upj (e 11) (fn A) a (fn A)) (upj (e 12) (fn A) oth (fn A)) (upj (e 13) (fn A) fs (fn A)) (upj (e 14) (fn A) sn (fn A))
  rw [s, s, s, s, s, s]
  exact hq
def mbP (A : AS) (kind a b x y : Int) : Prop := (kind = 0 ∧ crs A a b (cAt A x y)) ∨ ((kind = 1 ∨ kind = 2) ∧ (0 ≤ b ∧ b ≤ 5000) ∧ pIn A a (cAt A x y)) ∨ (kind = 3 ∧ 0 ≤ x ∧ y ≤ day A ∧ x ≤ y) ∨ (kind = 4 ∧ a ≠ b ∧ isW A b ∧ -5000 ≤ x ∧ x ≤ 5000)
theorem m_mayBe (hS : Msh M σ) (h : MH A f e) (hA : Wf A) {kind a b x y : Int} (hk : RI kind) (ha : RI a) (hb : RI b) (hx : RI x) (hy : RI y) (hn : 100000 ≤ n) :
    (mbP A kind a b x y ∧ mX10_mayBe n (MW M σ f e) M (iI kind) (iI a) (iI b) (iI x) (iI y) = some (iI 1, MW M σ f e)) ∨ (¬ mbP A kind a b x y ∧ mX10_mayBe n (MW M σ f e) M (iI kind) (iI a) (iI b) (iI x) (iI y) = some (iI 0, MW M σ f e)) := by
  have W := mAll hS
  have h1 := hA.1
  unfold mX10_mayBe
  have Ha := m_hasLatest (n := n) hS h hA ha hx hy hn
  have Hb := m_hasLatest (n := n) hS h hA hb hx hy hn
  have Wb := m_isWalk (n := n) hS h hA hb
  unfold RI at hk ha hb hx hy
  simp (disch := omega) only [W, Option.bind_some, iL, iI_neg, Wb, Ha, Hb, h.1.2.2.1, m_in, bI_0, iI_eq]
  unfold mbP
  by_cases k0 : kind = 0
  · rw [if_pos k0]
    by_cases c : crs A a b (cAt A x y)
    · rw [if_neg (fun q => q c.2.2.1), if_neg c.1, if_neg (fun q => q c.2.1), if_neg (fun q => q c.2.2)]
      exact Or.inl ⟨Or.inl ⟨k0, c⟩, rfl⟩
    · refine Or.inr ⟨by omega, ?_⟩
      by_cases c1 : isW A b
      · rw [if_neg (fun q => q c1)]
        by_cases c2 : a = b
        · rw [if_pos c2]
        · rw [if_neg c2]
          by_cases c3 : pIn A a (cAt A x y)
          · rw [if_neg (fun q => q c3), if_pos (fun q => c ⟨c2, c3, q⟩)]
          · rw [if_pos c3]
      · rw [if_pos c1]
  · rw [if_neg k0]
    have key : ((0 ≤ b ∧ b ≤ 5000) ∧ pIn A a (cAt A x y) ∧ (if ¬ (0 ≤ b ∧ b ≤ 5000) then some (iI 0, MW M σ f e) else if ¬ pIn A a (cAt A x y) then some (iI 0, MW M σ f e) else some (iI 1, MW M σ f e)) = some (iI 1, MW M σ f e)) ∨ (¬ ((0 ≤ b ∧ b ≤ 5000) ∧ pIn A a (cAt A x y)) ∧ (if ¬ (0 ≤ b ∧ b ≤ 5000) then some (iI 0, MW M σ f e) else if ¬ pIn A a (cAt A x y) then some (iI 0, MW M σ f e) else some (iI 1, MW M σ f e)) = some (iI 0, MW M σ f e)) := by
      by_cases c1 : 0 ≤ b ∧ b ≤ 5000
      · rw [if_neg (fun q => q c1)]
        by_cases c2 : pIn A a (cAt A x y)
        · rw [if_neg (fun q => q c2)]
          exact Or.inl ⟨c1, c2, rfl⟩
        · rw [if_pos c2]
          exact Or.inr ⟨fun q => c2 q.2, rfl⟩
      · rw [if_pos c1]
        exact Or.inr ⟨fun q => c1 q.1, rfl⟩
    by_cases k1 : kind = 1
    · rw [if_pos k1]
      rcases key with ⟨q1, q2, q3⟩ | ⟨q1, q3⟩
      · exact Or.inl ⟨Or.inr (Or.inl ⟨Or.inl k1, q1, q2⟩), q3⟩
      · exact Or.inr ⟨by omega, q3⟩
    · rw [if_neg k1]
      by_cases k2 : kind = 2
      · rw [if_pos k2]
        rcases key with ⟨q1, q2, q3⟩ | ⟨q1, q3⟩
        · exact Or.inl ⟨Or.inr (Or.inl ⟨Or.inr k2, q1, q2⟩), q3⟩
        · exact Or.inr ⟨by omega, q3⟩
      · rw [if_neg k2]
        by_cases k3 : kind = 3
        · rw [if_pos k3]
          by_cases c1 : 0 ≤ x ∧ x ≤ (day A : Int)
          · rw [if_neg (fun q => q c1)]
            by_cases c2 : x ≤ y ∧ y ≤ (day A : Int)
            · rw [if_neg (fun q => q c2)]
              exact Or.inl ⟨by omega, rfl⟩
            · rw [if_pos c2]
              exact Or.inr ⟨by omega, rfl⟩
          · rw [if_pos c1]
            exact Or.inr ⟨by omega, rfl⟩
        · rw [if_neg k3]
          by_cases k4 : kind = 4
          · rw [if_pos k4]
            by_cases c1 : isW A b
            · rw [if_neg (fun q => q c1)]
              by_cases c2 : a = b
              · rw [if_pos c2]
                exact Or.inr ⟨by omega, rfl⟩
              · rw [if_neg c2]
                by_cases c3 : -5000 ≤ x ∧ x ≤ 5000
                · rw [if_neg (fun q => q c3)]
                  exact Or.inl ⟨by omega, rfl⟩
                · rw [if_pos c3]
                  exact Or.inr ⟨by omega, rfl⟩
            · rw [if_pos c1]
              exact Or.inr ⟨by omega, rfl⟩
          · rw [if_neg k4]
            exact Or.inr ⟨by omega, rfl⟩
theorem m_fact (hS : Msh M σ) (h : MH A f e) (hA : Wf A) {who kind a b x y : Int} (hw : RI who) (hk : RI kind) (ha : RI a) (hb : RI b) (hx : RI x) (hy : RI y) (hn : 100000 ≤ n) :
    ∃ r A' f' e', mX10_fact n (MW M σ f e) M (iI who) (iI kind) (iI a) (iI b) (iI x) (iI y) = some (iI r, MW M σ f' e') ∧ MH A' f' e' ∧ AddQ A (factOf A who kind a b x y) A' r := by
  have W := mAll hS
  have h1 := hA.1
  have h8 := hA.2.2.1.1
  have h20 := hA.2.2.2.1.1
  have no : factOf A who kind a b x y = none → ∃ r A' f' e', some (iI (-1), MW M σ f e) = some (iI r, MW M σ f' e') ∧ MH A' f' e' ∧ AddQ A (factOf A who kind a b x y) A' r := fun q => ⟨-1, A, f, e, rfl, h, by rw [q]; exact ⟨rfl, rfl⟩⟩
  have yes : ∀ q oth fs sn, factOf A who kind a b x y = some q → FcM A q who kind a oth fs sn → ∃ r A' f' e', some (iI (fn A : Int), MW M σ (updZ f 27 ((fn A : Int) + 1)) (e6 A e who kind a oth fs sn)) = some (iI r, MW M σ f' e') ∧ MH A' f' e' ∧ AddQ A (factOf A who kind a b x y) A' r := fun q oth fs sn q1 q2 => ⟨fn A, _, _, _, rfl, h.e6 q2, by rw [q1]; exact ⟨rfl, rfl⟩⟩
  unfold mX10_fact
  have Wa := m_isWalk (n := n) hS h hA ha
  have hR := And.intro hw (And.intro hk (And.intro ha (And.intro hb (And.intro hx hy))))
  unfold RI at hR
  simp (disch := omega) only [W, iL, iI_neg, Wa, m_in, Option.bind_some, bI_0]
  by_cases c1 : -1 ≤ who ∧ who ≤ 5
  · rw [if_neg (fun q => q c1)]
    by_cases c2 : isW A a
    · rw [if_neg (fun q => q c2)]
      have fof : fn A < 20 → factOf A who kind a b x y = (if kind = 0 then (if crs A a b (cAt A x y) then some (who, a.toNat + 1, b.toNat + 1, mad (wk A b.toNat) (cAt A x y) - mad (wk A a.toNat) (cAt A x y) + 1, 1000000) else none)
  else if kind = 1 then (if lIn (wk A a.toNat) (cAt A x y) ≠ -1 ∧ 0 ≤ b ∧ b ≤ 5000 then some (who, a.toNat + 1, 0, b - mad (wk A a.toNat) (cAt A x y) + 1, 1000000) else none)
  else if kind = 2 then (if lIn (wk A a.toNat) (cAt A x y) ≠ -1 ∧ 0 ≤ b ∧ b ≤ 5000 then some (who, a.toNat + 1, 0, -1000000, b - mad (wk A a.toNat) (cAt A x y)) else none)
  else if kind = 3 then (if 0 ≤ x ∧ y ≤ day A ∧ x ≤ y then some (who, a.toNat + 1, 0, x, y) else none)
  else if kind = 4 then (if a ≠ b ∧ isW A b ∧ -5000 ≤ x ∧ x ≤ 5000 then some (who, a.toNat + 1, b.toNat + 1, x, 1000000) else none)
  else none) := fun q => by unfold factOf; rw [if_neg (by omega)]
      rcases m_mayBe hS h hA hk ha hb hx hy hn with ⟨p1, p2⟩ | ⟨p1, p2⟩
      · rw [p2]
        simp (disch := omega) only [Option.bind_some, iI_eq, W, h.2.2.2.1.1]
        rw [if_neg (by omega)]
        by_cases c3 : fn A < 20
        · rw [if_neg (by omega)]
          have fin : ∀ oth fs : Int, mX10_fact_154 n (MW M σ f (ups (ups (ups (ups e 9 (fn A) who) 10 (fn A) kind) 11 (fn A) a) 12 (fn A) oth)) (iI fs) (iI (fn A : Int)) (M + 13) M (iI y) = some (iI (fn A : Int), MW M σ (updZ f 27 ((fn A : Int) + 1)) (e6 A e who kind a oth fs y)) := by
            intro oth fs
            unfold mX10_fact_154
            simp (disch := omega) only [W, Option.bind_some, h.2.2.2.1.1, iL, iI_add, updZ_same, iI_sub]
            rw [show (fn A : Int) + 1 - 1 = fn A by omega]
            rfl
          have hA2 : ∀ oth : Int, MH A f (ups (ups (ups (ups e 9 (fn A) who) 10 (fn A) kind) 11 (fn A) a) 12 (fn A) oth) := fun oth => (((h.tail (r := 9) (by omega) who).tail (r := 10) (by omega) kind).tail (r := 11) (by omega) a).tail (r := 12) (by omega) oth
          have fof := fof c3
          obtain ⟨va, va1, va2, va3⟩ := isW.nat c2
          have wa1 := hA.2.2.1.2 va va1
          have mR := mad_R A wa1 (cAt A x y)
          rcases p1 with ⟨k0, p1⟩ | ⟨k0, p1, p3⟩ | ⟨k0, p1⟩ | ⟨k0, p1⟩
          · rw [if_pos k0] at fof
            rw [if_pos p1] at fof
            simp (disch := omega) only [mX10_fact_90, mX10_fact_96, W, Option.bind_some, iL, iI_eq, iI_mul, iI_add, h.2.2.2.1.1]
            rw [if_pos k0, if_pos k0, fin]
            have hc : cAt A x y = 16 * y + x ∧ 0 ≤ 16 * y + x ∧ 16 * y + x < 256 := by
              have q := p1.2.1.2
              unfold cAt at q ⊢
              by_cases cc : 0 ≤ x ∧ x < wide A ∧ 0 ≤ y ∧ y < deep A
              · rw [if_pos cc]; omega
              · rw [if_neg cc, lIn_m1] at q; exact absurd rfl q
            obtain ⟨vb, vb1, vb2, vb3⟩ := isW.nat p1.2.2.1
            refine yes _ _ _ _ fof ⟨rfl, va, va1, va2, by rw [va3], by omega, by omega, Or.inl ⟨k0, ⟨vb, vb1, by have := p1.1; omega, vb2, by rw [vb3], by omega, by omega, ?_⟩, rfl⟩⟩
            show mad (wk A b.toNat) (cAt A x y) - mad (wk A a.toNat) (cAt A x y) + 1 = _
            rw [va3, vb3, hc.1]
          · have hkn : kind ≠ 0 ∧ kind ≠ 4 := by omega
            simp (disch := omega) only [mX10_fact_96, W, Option.bind_some, iL, iI_neg, iI_eq, iI_mul, iI_add, h.2.2.2.1.1, mX10_fact_130, (h.2.2.1.2 va va1).2.1, va2, m_latest hS (hA2 (-1)) hA (show RI (va : Int) from RI.sm (by omega) (by omega)) hx hy hn]
            have pa : (ups (ups (ups (ups e 9 (fn A) who) 10 (fn A) kind) 11 (fn A) (va : Int)) 12 (fn A) (-1)) 6 (va : Int) = wpace (wk A va) := (h.2.2.1.2 va va1).2.1
            have ml := m_latest (n := n) hS (hA2 (-1)) hA (show RI (va : Int) from RI.sm (by omega) (by omega)) hx hy hn
            rw [va2] at ml fin
            simp (disch := omega) only [pa, ml, Option.bind_some, iI_mul, iI_sub, if_pos (show 0 ≤ (va : Int) ∧ (va : Int) < wn A by omega), show ((va : Int)).toNat = va by omega]
            have em : (wpace (wk A va) : Int) * lIn (wk A va) (cAt A x y) = mad (wk A va) (cAt A x y) := rfl
            rw [if_neg (by omega), if_neg (by omega), if_neg (by omega), em, fin]
            rcases k0 with k0 | k0
            · rw [if_pos k0]
              rw [if_neg (by omega), if_pos k0, if_pos ⟨p3.2, p1⟩, va3] at fof
              rw [← va2]
              exact yes _ _ _ _ fof ⟨rfl, va, va1, va2, rfl, by omega, by omega, Or.inr (Or.inl ⟨k0, rfl, rfl, rfl⟩)⟩
            · rw [if_neg (by omega), if_pos k0]
              rw [if_neg (by omega), if_neg (by omega), if_pos k0, if_pos ⟨p3.2, p1⟩, va3] at fof
              rw [← va2]
              exact yes _ _ _ _ fof ⟨rfl, va, va1, va2, rfl, by omega, by omega, Or.inr (Or.inr (Or.inl ⟨k0, rfl, rfl, rfl⟩))⟩
          · simp (disch := omega) only [mX10_fact_96, W, Option.bind_some, iL, iI_neg, iI_eq, h.2.2.2.1.1]
            rw [if_neg (by omega), if_neg (by omega), if_neg (by omega), if_neg (by omega), if_neg (by omega), fin]
            rw [if_neg (by omega), if_neg (by omega), if_neg (by omega), if_pos k0, if_pos (by omega)] at fof
            exact yes _ _ _ _ fof ⟨rfl, va, va1, va2, by rw [va3], by omega, by omega, Or.inr (Or.inr (Or.inr (Or.inl ⟨k0, rfl, rfl, rfl, by omega, by omega⟩)))⟩
          · simp (disch := omega) only [mX10_fact_90, mX10_fact_96, W, Option.bind_some, iL, iI_neg, iI_eq, h.2.2.2.1.1]
            rw [if_neg (by omega), if_pos k0, if_neg (by omega), if_neg (by omega), if_neg (by omega), fin]
            rw [if_neg (by omega), if_neg (by omega), if_neg (by omega), if_neg (by omega), if_pos k0, if_pos p1] at fof
            obtain ⟨vb, vb1, vb2, vb3⟩ := isW.nat p1.2.1
            exact yes _ _ _ _ fof ⟨rfl, va, va1, va2, by rw [va3], by omega, by omega, Or.inr (Or.inr (Or.inr (Or.inr ⟨k0, ⟨vb, vb1, by have := p1.1; omega, vb2, by rw [vb3]⟩, rfl, rfl⟩)))⟩
        · rw [if_pos (by omega)]
          exact no (by unfold factOf; rw [if_pos (by omega)])
      · rw [p2]
        simp only [Option.bind_some, if_true]
        refine no ?_
        by_cases c3 : fn A < 20
        · rw [fof c3]
          unfold mbP at p1
          by_cases k0 : kind = 0
          · rw [if_pos k0, if_neg (fun q => p1 (Or.inl ⟨k0, q⟩))]
          · rw [if_neg k0]
            by_cases k1 : kind = 1
            · rw [if_pos k1, if_neg (fun q => p1 (Or.inr (Or.inl ⟨Or.inl k1, q.2, c2, q.1⟩)))]
            · rw [if_neg k1]
              by_cases k2 : kind = 2
              · rw [if_pos k2, if_neg (fun q => p1 (Or.inr (Or.inl ⟨Or.inr k2, q.2, c2, q.1⟩)))]
              · rw [if_neg k2]
                by_cases k3 : kind = 3
                · rw [if_pos k3, if_neg (fun q => p1 (Or.inr (Or.inr (Or.inl ⟨k3, q⟩))))]
                · rw [if_neg k3]
                  by_cases k4 : kind = 4
                  · rw [if_pos k4, if_neg (fun q => p1 (Or.inr (Or.inr (Or.inr ⟨k4, q⟩))))]
                  · rw [if_neg k4]
        · unfold factOf; rw [if_pos (by omega)]
    · rw [if_pos c2]
      exact no (by unfold factOf; rw [if_pos (Or.inr (Or.inl c2))])
  · rw [if_pos c1]
    exact no (by unfold factOf; rw [if_pos (Or.inl c1)])
/-- a photo's facts are the reference's -/
theorem factAb_of (hA : Wf A) {who w x y : Int} {t : Nat} (hw : -1 ≤ who ∧ who ≤ 5) (hwW : isW A w) : factOf A who 0 w t x y = factAb A who w t (cAt A x y) := by
  unfold factOf factAb
  by_cases c : fn A < 20
  · rw [if_neg (by rintro (q | q | q); exact q hw; exact q hwW; exact q c), if_pos rfl]
    by_cases c2 : crs A w t (cAt A x y)
    · rw [if_pos c2, if_pos ⟨c2, c⟩]
    · rw [if_neg c2, if_neg (fun q => c2 q.1)]
  · rw [if_pos (Or.inr (Or.inr c)), if_neg (fun q => c q.2)]
theorem AddQ.wf {o : Option Fc} {A' : AS} {r : Int} (hA : Wf A) (h : AddQ A o A' r) (ho : ∀ q, o = some q → FWf A q ∧ fn A < 20) : Wf A' := by
  cases o with
  | none => rw [h.1]; exact hA
  | some q =>
    rw [h.1]
    obtain ⟨k1, k2, k3, k4, k5⟩ := hA
    obtain ⟨q1, q2⟩ := ho q rfl
    refine ⟨k1, k2, k3, ⟨?_, fun g hg => ?_⟩, k5⟩
    · show fn A + 1 ≤ 20
      omega
    · have hg : g < fn A + 1 := hg
      show FWf A (if g = fn A then q else fc A g)
      by_cases c : g = fn A
      · rw [if_pos c]; exact q1
      · rw [if_neg c]; exact k4.2 g (by omega)
theorem factAb_wf (hA : Wf A) {who w c : Int} {t : Nat} (hw : -1 ≤ who ∧ who ≤ 5) {q : Fc} (h : factAb A who w t c = some q) : FWf A q ∧ fn A < 20 := by
  unfold factAb at h
  by_cases c2 : crs A w t c ∧ fn A < 20
  · rw [if_pos c2] at h
    cases h
    have m1 := mad_R A (hA.2.2.1.2 w.toNat (by have := c2.1.2.1.1; omega)) c
    have m2 := mad_R A (hA.2.2.1.2 (t : Int).toNat (by have := c2.1.2.2.1; omega)) c
    have w1 := c2.1.1
    have w2 := c2.1.2.1.1
    have w3 := c2.1.2.2.1
    refine ⟨⟨hw.1, hw.2, ?_, ?_, ?_, ?_, ?_, ?_, ?_, ?_⟩, c2.2⟩
    · show w.toNat + 1 ≤ wn A
      omega
    · show (t : Int).toNat + 1 ≤ wn A
      omega
    · show w.toNat + 1 ≠ (t : Int).toNat + 1
      omega
    · show -1000000 ≤ mad (wk A (t : Int).toNat) c - mad (wk A w.toNat) c + 1
      omega
    · show mad (wk A (t : Int).toNat) c - mad (wk A w.toNat) c + 1 ≤ 1000000
      omega
    · show (-1000000 : Int) ≤ 1000000
      omega
    · show (1000000 : Int) ≤ 1000000
      omega
    · show mad (wk A (t : Int).toNat) c - mad (wk A w.toNat) c + 1 ≤ 1000000
      omega
  · rw [if_neg c2] at h; cases h
theorem addO_1 (A : AS) (o : Option Fc) : (addO A o).1 = A.1 := by cases o <;> rfl
theorem phA_1 (who w c : Int) (A : AS) : ∀ t, (phA who w c A t).1 = A.1
  | 0 => rfl
  | t + 1 => by
    unfold phA
    rw [addO_1, phA_1 who w c A t]
theorem m_photo (hS : Msh M σ) (h : MH A f e) (hA : Wf A) {who w x y : Int} (hw : RI who) (hv : RI w) (hx : RI x) (hy : RI y) (hn : 100000 ≤ n) : ∃ r A' f' e', mX10_photo n (MW M σ f e) M (iI who) (iI w) (iI x) (iI y) = some (iI r, MW M σ f' e') ∧ MH A' f' e' ∧ Photo A who w (cAt A x y) A' r := by
  have W := mAll hS
  have h8 := hA.2.2.1.1
  have no : ¬ phOK A who w (cAt A x y) → ∃ r A' f' e', some (iI (-1), MW M σ f e) = some (iI r, MW M σ f' e') ∧ MH A' f' e' ∧ Photo A who w (cAt A x y) A' r := fun q => ⟨-1, A, f, e, rfl, h, Or.inr ⟨q, rfl, rfl⟩⟩
  unfold mX10_photo
  have Ww := m_isWalk (n := n) hS h hA hv
  have Hw := m_hasLatest (n := n) hS h hA hv hx hy hn
  have Pr := m_prints (n := n) hS h hA hx hy hn
  have hR := And.intro hw hv
  unfold RI at hR
  simp (disch := omega) only [W, Option.bind_some, iL, iI_neg, Ww, Hw, Pr, m_in, bI_0, j_bitCount, nm, h.2.2.2.1.1]
  by_cases c1 : -1 ≤ who ∧ who ≤ 5
  · rw [if_neg (fun q => q c1)]
    by_cases c2 : isW A w
    · rw [if_neg (fun q => q c2)]
      by_cases c3 : pIn A w (cAt A x y)
      · rw [if_neg (fun q => q c3)]
        have cc : cAt A x y ≠ -1 := fun q => c3.2 (by rw [q]; exact lIn_m1 _)
        rw [if_neg cc]
        by_cases c4 : iI (fn A : Int) + (bcI (iI (prs A (cAt A x y))) - iI 1) ≤ iI 20
        · rw [if_pos c4]
          have ok : phOK A who w (cAt A x y) := ⟨c1, c3, c4⟩
          have key := loop_inv (body := mX10_photo_L61 n M (iI who) (iI w) (iI x) (iI y)) (fun s => ∃ (t : Nat) (f' : Nat → Int) (e' : Nat → Int → Int), t ≤ wn A ∧ s = (MW M σ f' e', iI (t : Int)) ∧ MH (phA who w (cAt A x y) A t) f' e' ∧ Wf (phA who w (cAt A x y) A t)) (fun s => wn A - s.2.toNatClampNeg)
            (fun s => ∃ (f' : Nat → Int) (e' : Nat → Int → Int), s = MW M σ f' e' ∧ MH (phA who w (cAt A x y) A (wn A)) f' e') ?_ n (MW M σ f e, iI 0) ⟨0, f, e, by omega, rfl, h, hA⟩ (by omega)
          · obtain ⟨r, hr, f', e', rfl, hM⟩ := key
            simp only [hr, Option.bind_some, W, hM.2.2.2.1.1]
            exact ⟨_, _, f', e', rfl, hM, Or.inl ⟨ok, rfl, rfl⟩⟩
          · rintro _ ⟨t, f', e', t1, rfl, hM, hW⟩
            have e20 : f' 20 = wn A := by rw [hM.2.2.1.1, phA_wn]
            by_cases ct : t = wn A
            · refine Or.inr ⟨_, ?_, f', e', rfl, by rw [← ct]; exact hM⟩
              simp (disch := omega) only [mX10_photo_L61, W, Option.bind_some, e20, iI_le]
              rw [if_pos (by omega)]
            · have z0 : (iI (t : Int)).toNatClampNeg = t := by rw [iI_clamp (by omega) (by omega)]; omega
              have z1 : (iI ((t : Int) + 1)).toNatClampNeg = t + 1 := by rw [iI_clamp (by omega) (by omega)]; omega
              have hm : wn A - (iI ((t : Int) + 1)).toNatClampNeg < wn A - (iI (t : Int)).toNatClampNeg := by omega
              have ca : cAt (phA who w (cAt A x y) A t) x y = cAt A x y := by unfold cAt wide deep; rw [phA_1]
              have wW : isW (phA who w (cAt A x y) A t) w := by unfold isW; rw [phA_wn]; exact c2
              have rt : RI (t : Int) := RI.sm (by omega) (by omega)
              have Ht := m_hasLatest (n := n) hS hM hW rt hx hy hn
              obtain ⟨r, A2, f2, e2, F1, F2, F3⟩ := m_fact (n := n) hS hM hW hw (show RI 0 from RI.sm (by omega) (by omega)) hv rt hx hy hn
              rw [factAb_of hW c1 wW, ca] at F3
              have e3 := F3.st
              have hW2 : Wf A2 := F3.wf hW (fun q hq => factAb_wf hW c1 hq)
              have e4 : A2 = phA who w (cAt A x y) A (t + 1) := e3
              rw [ca] at Ht
              simp (disch := omega) only [mX10_photo_L61, W, Option.bind_some, e20, iI_le, iI_eq, Ht, iL, bI_0, F1, mX10_photo_101, iI_add]
              rw [if_neg (by omega)]
              have skip : ¬ crs (phA who w (cAt A x y) A t) w t (cAt A x y) → phA who w (cAt A x y) A (t + 1) = phA who w (cAt A x y) A t := fun q => by
                conv => lhs; unfold phA
                unfold factAb
                rw [if_neg (fun p => q p.1)]
                rfl
              by_cases d1 : (t : Int) = w
              · rw [if_pos d1]
                have sk := skip (fun q => q.1 d1.symm)
                exact Or.inl ⟨_, rfl, ⟨t + 1, f', e', by omega, rfl, by rw [sk]; exact hM, by rw [sk]; exact hW⟩, hm⟩
              · rw [if_neg d1]
                by_cases d2 : pIn (phA who w (cAt A x y) A t) (t : Int) (cAt A x y)
                · rw [if_neg (fun q => q d2)]
                  exact Or.inl ⟨_, rfl, ⟨t + 1, f2, e2, by omega, rfl, by rw [← e4]; exact F2, by rw [← e4]; exact hW2⟩, hm⟩
                · rw [if_pos d2]
                  have sk := skip (fun q => d2 q.2.2)
                  exact Or.inl ⟨_, rfl, ⟨t + 1, f', e', by omega, rfl, by rw [sk]; exact hM, by rw [sk]; exact hW⟩, hm⟩
        · rw [if_neg c4]
          exact no (fun q => c4 q.2.2)
      · rw [if_pos c3]
        exact no (fun q => c3 q.2.1)
    · rw [if_pos c2]
      exact no (fun q => c2 q.2.1.1)
  · rw [if_pos c1]
    exact no (fun q => c1 q.1)
/-- how many prints below t -/
def prnU (w : Wk) : Nat → Nat
  | 0 => 0
  | t + 1 => prn (wcell w) t
theorem prnU_step (w : Wk) (t : Nat) : prnU w (t + 1) = prnU w t + if prt w t then 1 else 0 := by
  cases t with
  | zero =>
    show (1 : Nat) = 0 + _
    rw [if_pos (Or.inl rfl)]
  | succ t =>
    show (if wcell w (t + 1) = wcell w t then prn (wcell w) t else prn (wcell w) t + 1) = prn (wcell w) t + _
    by_cases c : wcell w (t + 1) = wcell w t
    · rw [if_pos c, if_neg]
      · rfl
      · rintro (q | q)
        · omega
        · exact q c
    · rw [if_neg c, if_pos (show prt w (t + 1) from Or.inr c)]
theorem prnU_le (w : Wk) : ∀ t, prnU w t ≤ t
  | 0 => Nat.le_refl 0
  | t + 1 => by
    have := prnU_le w t
    rw [prnU_step]
    split <;> omega
/-- told's answer -/
def tldV (w : Wk) (z : Int) : Int := if z = 0 then wlast w else if z = 1 then wpace w else if z = 2 then wboot w else if z = 3 then prn (wcell w) (wlast w) else wtold w
theorem m_told (hS : Msh M σ) (h : MH A f e) (hA : Wf A) {w z : Int} (hw : RI w) (hz : RI z) (hn : 100000 ≤ n) : ∃ r f', mX10_told n (MW M σ f e) M (iI w) (iI z) = some (iI r, MW M σ f' e) ∧ MH A f' e ∧ ((isW A w ∧ 0 ≤ z ∧ z ≤ 4 ∧ f' 0 = 0 ∧ r = tldV (wk A w.toNat) z) ∨ (¬ (isW A w ∧ 0 ≤ z ∧ z ≤ 4) ∧ f' 0 = 1)) := by
  have W := mAll hS
  have h8 := hA.2.2.1.1
  have Ww := m_isWalk (n := n) hS h hA hw
  have bad : ∃ r f', mX10_told_22 n (MW M σ f e) M M (iI w) (iI z) = some (iI r, MW M σ f' e) ∧ MH A f' e ∧ f' 0 = 1 := by
    unfold mX10_told_22 mX10_told_23
    simp only [iL, W, Option.bind_some, updZ_same, if_true]
    exact ⟨0, updZ f 0 1, rfl, h.sc (Sc.f 0 1 (by omega)), rfl⟩
  have bad2 : ¬ (isW A w ∧ 0 ≤ z ∧ z ≤ 4) → ∃ r f', mX10_told_22 n (MW M σ f e) M M (iI w) (iI z) = some (iI r, MW M σ f' e) ∧ MH A f' e ∧ ((isW A w ∧ 0 ≤ z ∧ z ≤ 4 ∧ f' 0 = 0 ∧ r = tldV (wk A w.toNat) z) ∨ (¬ (isW A w ∧ 0 ≤ z ∧ z ≤ 4) ∧ f' 0 = 1)) := fun q => by
    obtain ⟨r, f', b1, b2, b3⟩ := bad
    exact ⟨r, f', b1, b2, Or.inr ⟨q, b3⟩⟩
  unfold mX10_told
  unfold RI at hw hz
  simp (disch := omega) only [W, Option.bind_some, iL, Ww, m_in, bI_0]
  by_cases c1 : 0 ≤ w ∧ w < wn A
  · rw [if_neg (fun q => q c1)]
    by_cases c2 : 0 ≤ z ∧ z ≤ 4
    · rw [if_neg (fun q => q c2)]
      obtain ⟨v, v1, v2, v3⟩ := isW.nat c1
      have h60 := (hA.2.2.1.2 v v1).2.2.2.1
      have hM : MH A (updZ f 0 0) e := h.sc (Sc.f 0 0 (by omega))
      obtain ⟨a1, a2, a3, a4, a5⟩ := h.2.2.1.2 v v1
      have L : loopM (mX10_told_L41 n M (iI (v : Int))) n (MW M σ (updZ f 0 0) e, iI 0, iI 0) = some (MW M σ (updZ f 0 0) e, iI (prn (wcell (wk A v)) (wlast (wk A v)) : Nat)) := by
        have e0 : (MW M σ (updZ f 0 0) e, iI 0, iI 0) = (fun t : Nat => (MW M σ (updZ f 0 0) e, iI (prnU (wk A v) t : Nat), iI (t : Int))) 0 := rfl
        rw [e0]
        refine loop_run (fun t : Nat => (MW M σ (updZ f 0 0) e, iI (prnU (wk A v) t : Nat), iI (t : Int))) (wlast (wk A v) + 1) 0 (fun t _ h1 => ?_) ?_ n (by omega)
        · have ht1 : t ≤ wlast (wk A v) := by omega
          simp (disch := omega) only [mX10_told_L41, W, Option.bind_some, a1, iI_lt, m_hasPrint hS hM hA v1 ht1, iL, bI_0, mX10_told_68, nm, iI_add]
          rw [if_neg (by omega), prnU_step]
          by_cases c3 : prt (wk A v) t
          · rw [if_neg (fun q => q c3), if_pos c3]; rfl
          · rw [if_pos c3, if_neg c3, Int.add_zero]; rfl
        · simp (disch := omega) only [Nat.zero_add, mX10_told_L41, W, Option.bind_some, a1, iI_lt]
          rw [if_pos (by omega)]; rfl
      unfold mX10_told_23
      simp (disch := omega) only [W, Option.bind_some, iL, updZ_same, v2, iI_eq, L, a1, a2, a3, a4]
      rw [if_neg (by omega)]
      have e1 : ∀ r : Int, r = tldV (wk A v) z → ∃ r' f', some (iI r, MW M σ (updZ f 0 0) e) = some (iI r', MW M σ f' e) ∧ MH A f' e ∧ ((isW A (v : Int) ∧ 0 ≤ z ∧ z ≤ 4 ∧ f' 0 = 0 ∧ r' = tldV (wk A (v : Int).toNat) z) ∨ (¬ (isW A (v : Int) ∧ 0 ≤ z ∧ z ≤ 4) ∧ f' 0 = 1)) := fun r hr => ⟨r, updZ f 0 0, rfl, hM, Or.inl ⟨by omega, c2.1, c2.2, rfl, hr⟩⟩
      by_cases k0 : z = 0
      · rw [if_pos k0]
        exact e1 _ (by unfold tldV; rw [if_pos k0])
      · rw [if_neg k0]
        by_cases k1 : z = 1
        · rw [if_pos k1]
          exact e1 _ (by unfold tldV; rw [if_neg k0, if_pos k1])
        · rw [if_neg k1]
          by_cases k2 : z = 2
          · rw [if_pos k2]
            exact e1 _ (by unfold tldV; rw [if_neg k0, if_neg k1, if_pos k2])
          · rw [if_neg k2]
            by_cases k3 : z = 3
            · rw [if_pos k3]
              exact e1 _ (by unfold tldV; rw [if_neg k0, if_neg k1, if_neg k2, if_pos k3])
            · rw [if_neg k3]
              exact e1 _ (by unfold tldV; rw [if_neg k0, if_neg k1, if_neg k2, if_neg k3])
    · rw [if_pos c2]
      exact bad2 (fun q => c2 q.2)
  · rw [if_pos c1]
    exact bad2 (fun q => c1 q.1)
end X55
