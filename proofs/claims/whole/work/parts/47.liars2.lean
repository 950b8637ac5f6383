/-! ===== liars, the loop ===== -/
section X47
variable {B n : Nat} {wa : Nat → Nat} {σ : Sg} {A : AS}
set_option maxRecDepth 100000 in
theorem and6_sub : ∀ p : Nat, p < 64 → ∀ q : Nat, q < 64 → (p &&& q) &&& q = p &&& q := by decide +kernel
theorem x_liars (h : St B wa σ A) (x : Int32) (hn : 100000 ≤ n) : ∃ r σ', mX9_liars n σ B x = some (iI r, σ') ∧ St B wa σ' A ∧ Fr B σ σ' ∧ Two (un x < 2 ^ fn A) (-1) (Liar A (un x)) r := by
  obtain ⟨hC, hS, hA⟩ := id h
  unfold mX9_liars
  simp only [hC.o, Option.bind_some, x_isSet hC hA x]
  by_cases c0 : un x < 2 ^ fn A
  · rw [if_pos c0, if_neg i10]
    obtain ⟨r1, s4, a1, a2, a3, a4⟩ := x_draws (n := n) h x hn
    simp only [a1, Option.bind_some]
    by_cases c1 : can A (un x) (fn A)
    · rw [if_pos (a4.mpr c1)]
      exact ⟨-1, s4, rfl, a2, a3, Or.inr ⟨c0, Or.inl ⟨Or.inl c1, rfl⟩⟩⟩
    · rw [if_neg (fun q => c1 (a4.mp q))]
      obtain ⟨y, b1, b2⟩ := x_without (n := n) a2.1 hA x (-1) hn
      simp only [b1, Option.bind_some]
      obtain ⟨r2, s10, d1, d2, d3, d4⟩ := x_draws (n := n) a2 y hn
      simp only [d1, Option.bind_some]
      have all : fea A (un x) (un (-1)) ↔ fea A (un x) 63 := fea_congr (fun f hf _ hw => by
        have hW := hA.2.2.2.1.2 f hf
        have : (fc A f).1.toNat < 6 := by have := hW.1; have := hW.2.1; omega
        refine ⟨fun _ => bt63 _ this, fun _ => ?_⟩
        rw [un_m1, bt_iff, Nat.testBit_two_pow_sub_one]
        simp; omega)
      by_cases c2 : fea A (un x) 63
      · rw [if_pos (d4.mpr (b2.mpr (all.mpr c2)))]
        obtain ⟨sp, e1, e2, e3⟩ := x_speakers (n := n) d2.1 hA x hn
        simp only [e1, Option.bind_some]
        have inSp : ∀ f, f < fn A → bt (un x) f → (fc A f).1 ≠ -1 → bt sp (fc A f).1.toNat := fun f hf hb hw => by
          have hW := hA.2.2.2.1.2 f hf
          exact (e3 _).mpr ⟨f, hf, hb, by have := hW.1; omega⟩
        have feSp : fea A (un x) sp := (fea_congr (fun f hf hb hw => ⟨fun _ => inSp f hf hb hw, fun _ => by
          have hW := hA.2.2.2.1.2 f hf
          exact bt63 _ (by have := hW.1; have := hW.2.1; omega)⟩)).mp c2
        have sp1 : 1 ≤ sp := by
          rcases Nat.eq_zero_or_pos sp with e | e
          · rw [e] at feSp
            exact absurd (fea_0.mp feSp) c1
          · exact e
        have feAnd : ∀ q, fea A (un x) q ↔ fea A (un x) (q &&& sp) := fun q => fea_congr (fun f hf hb hw => by
          rw [bt_and]
          exact ⟨fun z => ⟨z, inSp f hf hb hw⟩, fun z => z.1⟩)
        have fr := a3.trans d3
        have key := loop_inv (body := mX9_liars_L44 n B x (iI sp)) (fun c => ∃ t b : Nat, 1 ≤ t ∧ t ≤ 64 ∧ 1 ≤ b ∧ b < 64 ∧ c.2 = (iI b, iI t) ∧ St B wa c.1 A ∧ Fr B σ c.1 ∧ fea A (un x) b ∧ rk6 b ≤ rk6 sp ∧ ∀ q, 1 ≤ q → q < t → q &&& sp = q → fea A (un x) q → rk6 b ≤ rk6 q) (fun c => 64 - c.2.2.toNatClampNeg)
          (fun e => ∃ s, ∃ b : Nat, e = (s, iI b) ∧ 1 ≤ b ∧ b < 64 ∧ St B wa s A ∧ Fr B σ s ∧ fea A (un x) b ∧ ∀ q, 1 ≤ q → q < 64 → q &&& sp = q → fea A (un x) q → rk6 b ≤ rk6 q) ?_ n (s10, iI sp, (1 : Int32)) ⟨1, sp, by omega, by omega, sp1, e2, rfl, d2, fr, feSp, Nat.le_refl _, fun q q1 q2 => by omega⟩ (by show 64 - _ < n; omega)
        · obtain ⟨e, k1, s, b, rfl, k2, k3, k4, k5, k6, k7⟩ := key
          simp only [k1, Option.bind_some]
          refine ⟨b, s, rfl, k4, k5, Or.inr ⟨c0, Or.inr ⟨c1, b, k2, k3, k6, fun q q1 q2 q3 => ?_, rfl⟩⟩⟩
          have f1 := (feAnd q).mp q3
          have f2 : 1 ≤ q &&& sp := by
            rcases Nat.eq_zero_or_pos (q &&& sp) with e | e
            · rw [e] at f1
              exact absurd (fea_0.mp f1) c1
            · exact e
          have f3 : q &&& sp < 64 := Nat.lt_of_le_of_lt Nat.and_le_left q2
          have f4 := k7 (q &&& sp) f2 f3 (and6_sub q q2 sp e2) f1
          have f5 := rk6_sub q q2 sp e2
          omega
        · rintro ⟨s, u⟩ ⟨t, b, t1, t2, b1', b2', eu, hs, hf, hb, hr, hm⟩
          have eu : u = (iI b, iI t) := eu
          subst eu
          have hs : St B wa s A := hs
          have hz : (iI (t : Int)).toNatClampNeg = t := by rw [iI_clamp (by omega) (by omega)]; omega
          have hz1 : (iI ((t + 1 : Nat) : Int)).toNatClampNeg = t + 1 := by rw [iI_clamp (by omega) (by omega)]; omega
          have rt : RI (t : Int) := RI.sm (by omega) (by omega)
          by_cases c3 : t = 64
          · refine Or.inr ⟨(s, iI b), ?_, s, b, rfl, b1', b2', hs, hf, hb, by rw [← c3]; exact hm⟩
            simp only [mX9_liars_L44]
            rw [if_pos ((c_Lle 64 (by omega) rt).mpr (by omega))]
          · have down : 64 - (iI ((t + 1 : Nat) : Int)).toNatClampNeg < 64 - (iI (t : Int)).toNatClampNeg := by rw [hz, hz1]; omega
            have keepB : (t &&& sp = t → fea A (un x) t → rk6 b ≤ rk6 t) → ∀ q, 1 ≤ q → q < t + 1 → q &&& sp = q → fea A (un x) q → rk6 b ≤ rk6 q := fun z q q1 q2 q3 q4 => by
              by_cases e : q = t
              · rw [e] at q3 q4 ⊢; exact z q3 q4
              · exact hm q q1 (by omega) q3 q4
            have skip : ∀ s', mX9_liars_73 n s' B x (iI sp) (iI b) (iI t) = some (.inl (s', iI b, iI ((t + 1 : Nat) : Int))) := fun s' => by
              simp only [mX9_liars_73, mX9_liars_74, mX9_liars_99, if_pos, pt1]
            by_cases c4 : t &&& sp = t
            · by_cases c5 : rk6 t < rk6 b
              · obtain ⟨y', g1, g2⟩ := x_without (n := n) hs.1 hA x (iI t) hn
                rw [un_iI (by omega)] at g2
                obtain ⟨r3, s', f1, f2, f3, f4⟩ := x_draws (n := n) hs y' hn
                have base : mX9_liars_L44 n B x (iI sp) (s, iI b, iI t) = if r3 = (-1 : Int32) then mX9_liars_99 n s' B x (iI sp) (iI t) (iI t) else mX9_liars_99 n s' B x (iI sp) (iI b) (iI t) := by
                  simp only [mX9_liars_L44]
                  rw [if_neg (fun q => by have := (c_Lle 64 (by omega) rt).mp q; omega), if_pos ((sub6 t (by omega) sp e2).mpr c4), x_blamed]
                  simp only [Option.bind_some, bef_rk t (by omega) b b2', decide_eq_true c5, if_pos]
                  rw [if_neg i10]
                  simp only [mX9_liars_74, if_neg i10, g1, Option.bind_some, f1]
                rw [base]
                by_cases c6 : fea A (un x) t
                · rw [if_pos (f4.mpr (g2.mpr c6))]
                  refine Or.inl ⟨(s', iI t, iI ((t + 1 : Nat) : Int)), by simp only [mX9_liars_99, pt1], ⟨t + 1, t, by omega, by omega, t1, by omega, rfl, f2, hf.trans f3, c6, by omega, fun q q1 q2 q3 q4 => ?_⟩, down⟩
                  by_cases e : q = t
                  · rw [e]; exact Nat.le_refl _
                  · have := hm q q1 (by omega) q3 q4
                    omega
                · rw [if_neg (fun q => c6 (g2.mp (f4.mp q)))]
                  exact Or.inl ⟨(s', iI b, iI ((t + 1 : Nat) : Int)), by simp only [mX9_liars_99, pt1], ⟨t + 1, b, by omega, by omega, b1', b2', rfl, f2, hf.trans f3, hb, hr, keepB (fun _ z => absurd z c6)⟩, down⟩
              · refine Or.inl ⟨(s, iI b, iI ((t + 1 : Nat) : Int)), ?_, ⟨t + 1, b, by omega, by omega, b1', b2', rfl, hs, hf, hb, hr, keepB (fun _ _ => by omega)⟩, down⟩
                simp only [mX9_liars_L44]
                rw [if_neg (fun q => by have := (c_Lle 64 (by omega) rt).mp q; omega), if_pos ((sub6 t (by omega) sp e2).mpr c4), x_blamed]
                simp only [Option.bind_some, bef_rk t (by omega) b b2', decide_eq_false c5, Bool.false_eq_true, if_false, if_pos, skip]
            · refine Or.inl ⟨(s, iI b, iI ((t + 1 : Nat) : Int)), ?_, ⟨t + 1, b, by omega, by omega, b1', b2', rfl, hs, hf, hb, hr, keepB (fun z _ => absurd z c4)⟩, down⟩
              simp only [mX9_liars_L44]
              rw [if_neg (fun q => by have := (c_Lle 64 (by omega) rt).mp q; omega), if_neg (fun q => c4 ((sub6 t (by omega) sp e2).mp q)), skip]
      · rw [if_neg (fun q => c2 (all.mp (b2.mp (d4.mp q))))]
        exact ⟨-1, s10, rfl, d2, a3.trans d3, Or.inr ⟨c0, Or.inl ⟨Or.inr c2, rfl⟩⟩⟩
  · rw [if_neg c0, if_pos i00]
    exact ⟨-1, σ, rfl, h, Fr.refl B σ, Or.inl ⟨c0, rfl⟩⟩
end X47
