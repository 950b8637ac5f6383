/-! ===== the reference: liars, look ===== -/
set_option maxRecDepth 100000 in
theorem bef_ref : ∀ p : Nat, p < 64 → ∀ q : Nat, q < 64 → (decide (iI 0 < bcI (iI q) - bcI (iI p) ∨ (bcI (iI q) - bcI (iI p) = iI 0 ∧ ¬ ((iI p &&& (iI q ^^^ iI p)) &&& (-(iI q ^^^ iI p))) = iI 0))) = decide (rk6 p < rk6 q) := by decide +kernel
theorem of_decide_eq_true_iff {a b : Prop} [Decidable a] [Decidable b] (h : decide a = decide b) : a ↔ b := by
  by_cases ha : a
  · rw [decide_eq_true ha] at h
    exact ⟨fun _ => of_decide_eq_true h.symm, fun _ => ha⟩
  · rw [decide_eq_false ha] at h
    exact ⟨fun q => absurd q ha, fun q => absurd q (of_decide_eq_false h.symm)⟩
section X61
variable {M n : Nat} {σ : Sg} {A : AS} {f : Nat → Int} {e : Nat → Int → Int} {X : Nat → Nat → Int}
/-- the facts of some persons -/
def wof (A : AS) (P : Nat) : Nat → Bool := fun k => decide (0 ≤ (fc A k).1 ∧ bt P (fc A k).1.toNat)
theorem m_wordsOf (hS : Msh M σ) (h : MH A f e) (hA : Wf A) {p : Nat} (hp : p < 64) (hn : 100000 ≤ n) : mX10_wordsOf n (MW M σ f e) M (iI p) = some (iI (bsm (wof A p) (fn A) : Nat), MW M σ f e) := by
  have W := mAll hS
  have h20 := hA.2.2.2.1.1
  have L : loopM (mX10_wordsOf_L4 n M (iI p)) n (MW M σ f e, iI 0, iI 0) = some (MW M σ f e, iI (bsm (wof A p) (fn A) : Nat)) := by
    have e0 : (MW M σ f e, iI 0, iI 0) = (fun t : Nat => (MW M σ f e, iI (bsm (wof A p) t : Nat), iI (t : Int))) 0 := rfl
    rw [e0]
    refine loop_run (fun t : Nat => (MW M σ f e, iI (bsm (wof A p) t : Nat), iI (t : Int))) (fn A) 0 (fun t _ ht => ?_) ?_ n (by omega)
    · have q1 := (h.2.2.2.1.2 t (by omega)).1
      have q2 := hA.2.2.2.1.2 t (by omega)
      have q3 : -1 ≤ (fc A t).1 ∧ (fc A t).1 ≤ 5 := ⟨q2.1, q2.2.1⟩
      have stay : wof A p t = false → mX10_wordsOf_42 n (MW M σ f e) (iI (bsm (wof A p) t : Nat)) M (iI p) (iI (t : Int)) = some (Sum.inl (MW M σ f e, iI (bsm (wof A p) (t + 1) : Nat), iI ((t + 1 : Nat) : Int))) := fun q => by
        unfold mX10_wordsOf_42 mX10_wordsOf_43
        simp only [nm, iL, or0, iI_add]
        rw [bsm_stay q]; rfl
      simp (disch := omega) only [mX10_wordsOf_L4, W, Option.bind_some, h.2.2.2.1.1, iI_le, ← q1, iL, iI_lt]
      rw [if_neg (by omega)]
      by_cases c1 : (fc A t).1 < 0
      · rw [if_pos c1]
        exact stay (decide_eq_false (fun q => by omega))
      · rw [if_neg c1]
        obtain ⟨w, hw⟩ : ∃ w : Nat, (fc A t).1 = w := ⟨(fc A t).1.toNat, by omega⟩
        have up : un (iI (p : Int)) = p := un_iI (by omega)
        have mb := m_bt (x := iI (p : Int)) (k := w) (by rw [up]; omega) (by omega)
        rw [up] at mb
        rw [hw]
        by_cases c2 : bt p w
        · rw [if_pos (mb.mpr c2)]
          have b1 := bsm_step (f := wof A p) (t := t) (by omega) (decide_eq_true ⟨by omega, by rw [hw]; exact c2⟩)
          unfold mX10_wordsOf_43
          simp only [nm, iL, iI_add]
          rw [← b1]; rfl
        · rw [if_neg (fun q => c2 (mb.mp q))]
          exact stay (decide_eq_false (fun q => c2 (by have := q.2; rw [hw] at this; exact this)))
    · simp (disch := omega) only [Nat.zero_add, mX10_wordsOf_L4, W, Option.bind_some, h.2.2.2.1.1, iI_le]
      rw [if_pos (by omega)]
  unfold mX10_wordsOf
  simp only [W, Option.bind_some, iL, L]
theorem can_without (hA : Wf A) {x : Int32} {p : Nat} : can A (un (x &&& (iI (bsm (wof A p) (fn A) : Nat) ^^^ iI (-1)))) (fn A) ↔ fea A (un x) p := by
  have h20 := hA.2.2.2.1.1
  have hp : 2 ^ fn A ≤ 2 ^ 20 := Nat.pow_le_pow_right (by omega) h20
  unfold fea
  refine can_congr (fun g hg => ?_)
  have hl := bsm_lt (wof A p) (fn A)
  rw [un_and, bt_and, bt_rem A (un x) p g hg]
  have e1 := bt_not (iI (bsm (wof A p) (fn A) : Nat)) (j := g) (by omega)
  have e2 : iI (bsm (wof A p) (fn A) : Nat) ^^^ (-1 : Int32) = iI (bsm (wof A p) (fn A) : Nat) ^^^ iI (-1) := rfl
  rw [e2, un_iI (by omega)] at e1
  rw [e1, bsm_bit]
  have q := hA.2.2.2.1.2 g hg
  have q3 : -1 ≤ (fc A g).1 := q.1
  have e3 : (g < fn A ∧ wof A p g = true) ↔ ((fc A g).1 ≠ -1 ∧ bt p (fc A g).1.toNat) := by
    unfold wof
    rw [decide_eq_true_iff]
    constructor
    · rintro ⟨-, a, b⟩
      exact ⟨by omega, b⟩
    · rintro ⟨a, b⟩
      exact ⟨hg, by omega, b⟩
  rw [e3]
theorem m_liars (hS : Msh M σ) (h : MH A f e) (hA : Wf A) (x : Int32) (hn : 100000 ≤ n) : ∃ r f' e', mX10_liars n (MW M σ f e) M x = some (iI r, MW M σ f' e') ∧ MH A f' e' ∧ Two (un x < 2 ^ fn A) (-1) (Liar A (un x)) r := by
  have W := mAll hS
  have h20 := hA.2.2.2.1.1
  unfold mX10_liars
  simp only [W, Option.bind_some, m_isSet hS h hA x, iL, iI_neg, bI_0]
  by_cases c : un x < 2 ^ fn A
  · rw [if_neg (fun q => q c)]
    have hx := set20 hA c
    obtain ⟨X, hq⟩ := m_canBe (n := n) hS h hA (show un x < 2147483648 by omega) hn
    rcases hq with ⟨q1, q2⟩ | ⟨q1, q2⟩
    · simp only [q1, Option.bind_some]
      rw [if_neg (by decide)]
      exact ⟨-1, f, _, rfl, h.mx X, Or.inr ⟨c, Or.inl ⟨Or.inl ⟨_, q2.1⟩, rfl⟩⟩⟩
    · simp only [q1, Option.bind_some, if_true]
      have key := loop_inv (body := mX10_liars_L22 n M x) (fun s => ∃ (t : Nat) (b : Int) (X : Nat → Nat → Int), 1 ≤ t ∧ t ≤ 64 ∧ s = (MX M σ f e X, iI b, iI (t : Int)) ∧ ((b = -1 ∧ ∀ q, 1 ≤ q → q < t → ¬ fea A (un x) q) ∨ ∃ p : Nat, 1 ≤ p ∧ p < t ∧ b = p ∧ fea A (un x) p ∧ ∀ q, 1 ≤ q → q < t → fea A (un x) q → rk6 p ≤ rk6 q)) (fun s => 64 - s.2.2.toNatClampNeg)
        (fun s => ∃ (b : Int) (X : Nat → Nat → Int), s = (MX M σ f e X, iI b) ∧ ((b = -1 ∧ ∀ q, 1 ≤ q → q < 64 → ¬ fea A (un x) q) ∨ ∃ p : Nat, 1 ≤ p ∧ p < 64 ∧ b = p ∧ fea A (un x) p ∧ ∀ q, 1 ≤ q → q < 64 → fea A (un x) q → rk6 p ≤ rk6 q)) ?_ n (MX M σ f e X, iI (-1), iI 1) ⟨1, -1, X, by omega, by omega, rfl, Or.inl ⟨rfl, fun q a b => by omega⟩⟩ (by show 64 - _ < n; omega)
      · obtain ⟨s, hs, b, X', rfl, hb⟩ := key
        simp only [hs, Option.bind_some]
        refine ⟨b, f, _, rfl, h.mx X', Or.inr ⟨c, ?_⟩⟩
        rcases hb with ⟨b1, b2⟩ | ⟨p, p1, p2, p3, p4, p5⟩
        · exact Or.inl ⟨Or.inr (b2 63 (by omega) (by omega)), b1⟩
        · exact Or.inr ⟨q2, p, p1, p2, p4, p5, p3⟩
      · rintro _ ⟨t, b, X', t0, t1, rfl, hb⟩
        have bR : -1 ≤ b ∧ b < 64 := by
          rcases hb with ⟨b1, -⟩ | ⟨p, p1, p2, p3, -⟩ <;> omega
        by_cases ct : t = 64
        · subst ct
          refine Or.inr ⟨_, ?_, b, X', rfl, hb⟩
          simp (disch := omega) only [mX10_liars_L22, iL, iI_le]
          rw [if_pos (by omega)]
        · have z0 : (iI (t : Int)).toNatClampNeg = t := by rw [iI_clamp (by omega) (by omega)]; omega
          have z1 : (iI ((t : Int) + 1)).toNatClampNeg = t + 1 := by rw [iI_clamp (by omega) (by omega)]; omega
          have hm : 64 - (iI ((t : Int) + 1)).toNatClampNeg < 64 - (iI (t : Int)).toNatClampNeg := by omega
          have t64 : t < 64 := by omega
          have mle : un (x &&& (iI (bsm (wof A t) (fn A) : Nat) ^^^ iI (-1))) ≤ un x := by rw [un_and]; exact Nat.and_le_left
          have cw := can_without (A := A) hA (x := x) (p := t)
          obtain ⟨X2, k1⟩ := m_canBe' (n := n) hS h hA (x := x &&& (iI (bsm (wof A t) (fn A) : Nat) ^^^ iI (-1))) (by omega) hn X'
          have test : ∃ X3, (fea A (un x) t ∧ mX10_liars_74 n (MX M σ f e X') M x (iI b) (iI (t : Int)) = some (Sum.inl (MX M σ f e X3, iI (t : Int), iI ((t : Int) + 1)))) ∨ (¬ fea A (un x) t ∧ mX10_liars_74 n (MX M σ f e X') M x (iI b) (iI (t : Int)) = some (Sum.inl (MX M σ f e X3, iI b, iI ((t : Int) + 1)))) := by
            refine ⟨X2, ?_⟩
            unfold mX10_liars_74 mX10_liars_92
            simp only [m_wordsOf hS (h.mx X') hA t64 hn, Option.bind_some, iL, iI_neg, iI_add]
            rcases k1 with ⟨k1, k2⟩ | ⟨k1, k2⟩
            · simp only [k1, Option.bind_some]
              exact Or.inl ⟨cw.mp ⟨_, k2.1⟩, by rw [if_neg (by decide)]⟩
            · simp only [k1, Option.bind_some, if_true]
              exact Or.inr ⟨fun q => k2 (cw.mpr q), trivial⟩
          obtain ⟨X3, test⟩ := test
          have skip : mX10_liars_92 n (MX M σ f e X') M x (iI b) (iI (t : Int)) = some (Sum.inl (MX M σ f e X', iI b, iI ((t : Int) + 1))) := by
            unfold mX10_liars_92
            simp only [iL, iI_add]
          have grow : ∀ p : Nat, (∀ q, 1 ≤ q → q < t → fea A (un x) q → rk6 p ≤ rk6 q) → (fea A (un x) t → rk6 p ≤ rk6 t) → ∀ q, 1 ≤ q → q < t + 1 → fea A (un x) q → rk6 p ≤ rk6 q := fun p a1 a2 q b1 b2 b3 => by
            by_cases cq : q = t
            · rw [cq] at b3 ⊢; exact a2 b3
            · exact a1 q b1 (by omega) b3
          simp (disch := omega) only [mX10_liars_L22, iL, iI_neg, iI_le, iI_eq]
          rw [if_neg (by omega)]
          rcases hb with ⟨b1, b2⟩ | ⟨p, p1, p2, p3, p4, p5⟩
          · rw [if_pos b1]
            unfold mX10_liars_46
            simp only [nm, iL]
            rw [if_pos (by decide)]
            rcases test with ⟨y1, y2⟩ | ⟨y1, y2⟩
            · rw [y2]
              exact Or.inl ⟨_, rfl, ⟨t + 1, t, X3, by omega, by omega, rfl, Or.inr ⟨t, t0, by omega, rfl, y1, grow t (fun q a1 a2 a3 => absurd a3 (b2 q a1 a2)) (fun _ => Nat.le_refl _)⟩⟩, hm⟩
            · rw [y2]
              refine Or.inl ⟨_, rfl, ⟨t + 1, b, X3, by omega, by omega, rfl, Or.inl ⟨b1, fun q a1 a2 => ?_⟩⟩, hm⟩
              by_cases cq : q = t
              · rw [cq]; exact y1
              · exact b2 q a1 (by omega)
          · rw [if_neg (by omega)]
            have br := of_decide_eq_true_iff (bef_ref t t64 p (by omega))
            simp only [j_bitCount, Option.bind_some]
            unfold mX10_liars_46
            simp only [nm, iL]
            rw [p3] at test skip ⊢
            have yes : rk6 t < rk6 p → ∀ (s : Option ((Sg × Int32 × Int32) ⊕ (Sg × Int32))), s = mX10_liars_74 n (MX M σ f e X') M x (iI (p : Int)) (iI (t : Int)) → (∃ c', s = some (Sum.inl c') ∧ (∃ (t' : Nat) (b' : Int) (X : Nat → Nat → Int), 1 ≤ t' ∧ t' ≤ 64 ∧ c' = (MX M σ f e X, iI b', iI (t' : Int)) ∧ ((b' = -1 ∧ ∀ q, 1 ≤ q → q < t' → ¬ fea A (un x) q) ∨ ∃ p : Nat, 1 ≤ p ∧ p < t' ∧ b' = p ∧ fea A (un x) p ∧ ∀ q, 1 ≤ q → q < t' → fea A (un x) q → rk6 p ≤ rk6 q)) ∧ 64 - c'.2.2.toNatClampNeg < 64 - (iI (t : Int)).toNatClampNeg) := fun lt s hs => by
              rcases test with ⟨y1, y2⟩ | ⟨y1, y2⟩
              · exact ⟨_, hs.trans y2, ⟨t + 1, t, X3, by omega, by omega, rfl, Or.inr ⟨t, t0, by omega, rfl, y1, grow t (fun q a1 a2 a3 => Nat.le_trans (Nat.le_of_lt lt) (p5 q a1 a2 a3)) (fun _ => Nat.le_refl _)⟩⟩, hm⟩
              · exact ⟨_, hs.trans y2, ⟨t + 1, p, X3, by omega, by omega, rfl, Or.inr ⟨p, p1, by omega, rfl, p4, grow p p5 (fun q => absurd q y1)⟩⟩, hm⟩
            have noo : ¬ rk6 t < rk6 p → ∀ (s : Option ((Sg × Int32 × Int32) ⊕ (Sg × Int32))), s = mX10_liars_92 n (MX M σ f e X') M x (iI (p : Int)) (iI (t : Int)) → (∃ c', s = some (Sum.inl c') ∧ (∃ (t' : Nat) (b' : Int) (X : Nat → Nat → Int), 1 ≤ t' ∧ t' ≤ 64 ∧ c' = (MX M σ f e X, iI b', iI (t' : Int)) ∧ ((b' = -1 ∧ ∀ q, 1 ≤ q → q < t' → ¬ fea A (un x) q) ∨ ∃ p : Nat, 1 ≤ p ∧ p < t' ∧ b' = p ∧ fea A (un x) p ∧ ∀ q, 1 ≤ q → q < t' → fea A (un x) q → rk6 p ≤ rk6 q)) ∧ 64 - c'.2.2.toNatClampNeg < 64 - (iI (t : Int)).toNatClampNeg) := fun lt s hs =>
              ⟨_, hs.trans skip, ⟨t + 1, p, X', by omega, by omega, rfl, Or.inr ⟨p, p1, by omega, rfl, p4, grow p p5 (fun _ => by omega)⟩⟩, hm⟩
            by_cases d1 : iI 0 < bcI (iI (p : Int)) - bcI (iI (t : Int))
            · rw [if_pos d1]
              exact Or.inl (yes (br.mp (Or.inl d1)) _ rfl)
            · rw [if_neg d1]
              by_cases d2 : bcI (iI (p : Int)) - bcI (iI (t : Int)) = iI 0
              · rw [if_pos d2]
                by_cases d3 : (iI (t : Int) &&& (iI (p : Int) ^^^ iI (t : Int))) &&& (-(iI (p : Int) ^^^ iI (t : Int))) = iI 0
                · rw [if_pos d3]
                  exact Or.inl (noo (fun q => by rcases br.mpr q with z | z; exact d1 z; exact z.2 d3) _ rfl)
                · rw [if_neg d3]
                  exact Or.inl (yes (br.mp (Or.inr ⟨d2, d3⟩)) _ rfl)
              · rw [if_neg d2]
                exact Or.inl (noo (fun q => by rcases br.mpr q with z | z; exact d1 z; exact d2 z.1) _ rfl)
  · rw [if_pos c]
    exact ⟨-1, f, e, rfl, h, Or.inl ⟨c, rfl⟩⟩
end X61
