/-! ===== the reference: the search for the fewest walkers ===== -/
section X70
variable {M n : Nat} {σ : Sg} {A : AS} {f : Nat → Int} {e : Nat → Int → Int}
/-- a reached number of walkers -/
def RchP (A : AS) (S : Nat) (F : Int) : Prop := ∃ pr', lpV A S pr' ∧ F + cntO pr' (wn A) = wn A
theorem SW.put {pr pr' : Nat → Option Nat} {w : Nat} (hS : Msh M σ) (h : MH A f e) (hw : w < 8) (h16 : ∀ k : Nat, k < w → e 16 k = enc (pr k)) (hp : ∀ k, k < w → pr' k = pr k) : SW M σ A pr' (w + 1) (f 34) (MW M σ f (ups e 16 w (enc (pr' w)))) := by
  refine ⟨f, _, rfl, h.sc (Sc.e 16 w _ (by omega)), rfl, fun k hk => ?_⟩
  unfold ups
  rw [if_pos rfl]
  unfold upj
  by_cases z : k = w
  · rw [if_pos (by omega), z]
  · rw [if_neg (by omega), h16 k (by omega), hp k (by omega)]
theorem m_seek (hS : Msh M σ) (hA : Wf A) (h6 : wn A ≤ 6) {x : Int32} (hx : un x < 2147483648) (hn : 100000 ≤ n) : ∀ (d w : Nat) (pr : Nat → Option Nat) (F mn : Int) (s : Sg), mn + cntO pr w = w → wn A < d + w → w ≤ wn A → (∀ k, w ≤ k → pr k = none) → lkW A pr w → SW M σ A pr w F s → 0 ≤ F ∧ F ≤ 7 →
    ∃ s' F', mX10_seek n d s M x (iI w) (iI mn) = some s' ∧ SW M σ A pr w F' s' ∧ 0 ≤ F' ∧ F' ≤ F ∧ (F' = F ∨ RchP A (un x) F') ∧ ∀ pr', lpV A (un x) pr' → (∀ k, k < w → pr' k = pr k) → F' + cntO pr' (wn A) ≤ wn A := by
  have W := mAll hS
  intro d
  induction d with
  | zero => intro w pr F mn s hm hd hw; omega
  | succ d ih =>
    intro w pr F mn s hm hd hw hno hW hSW hF
    have hSW0 := hSW
    obtain ⟨f, e, rfl, h, h34, h16⟩ := hSW
    have cl := cntO_lt pr w
    simp (disch := omega) only [mX10_seek, eX10_seek, W, Option.bind_some, h34, h.2.2.1.1, iI_lt, iI_eq]
    by_cases c : mn < F
    · rw [if_pos c]
      by_cases cw : w = wn A
      · subst cw
        rw [if_pos rfl]
        obtain ⟨X, l1, l2⟩ := m_lay (n := n) hS h hA hx hn
        obtain ⟨X2, k1, k2⟩ := m_links (n := n) (r := mX10_seek n d) hS h hA h16 hW l2 hn
        obtain ⟨X3, c1⟩ := m_close (n := n) (f := f) (e := e) hS hA k2 (fun i j v q => Or.inl (Or.inl q)) hn
        simp only [l1, Option.bind_some, iL, k1]
        have e16 : ∀ k : Nat, k < wn A → setR e 15 (dX (e 15) X3) 16 (k : Int) = enc (pr k) := fun k hk => by
          unfold setR
          rw [if_neg (by omega)]
          exact h16 k hk
        have ag : ∀ pr', (∀ k, k < wn A → pr' k = pr k) → cntO pr' (wn A) = cntO pr (wn A) := fun pr' q => cntO_congr _ q
        rcases c1 with ⟨c1, c2⟩ | ⟨c1, c2⟩
        · simp only [c1, Option.bind_some, mX10_seek_93, W]
          rw [if_neg (by decide)]
          refine ⟨_, mn, rfl, ⟨_, _, rfl, (h.mx X3).sc (Sc.f 34 _ (by omega)), updZ_same _ _ _, e16⟩, by omega, by omega, Or.inr ⟨pr, ⟨hW, _, c2.1⟩, by omega⟩, fun pr' v q => ?_⟩
          have := ag pr' q
          omega
        · simp only [c1, Option.bind_some, mX10_seek_93, W, if_true]
          refine ⟨_, F, rfl, ⟨_, _, rfl, (h.mx X3).sc (Sc.f 34 _ (by omega)), by rw [updZ_same]; exact h34, e16⟩, by omega, by omega, Or.inl rfl, fun pr' v q => ?_⟩
          obtain ⟨Y, hY⟩ := v.2
          refine absurd (hY.mono (fun i j v _ _ hr => ?_)) (c2 Y)
          rcases hr with hr | ⟨b, a, u1, u2, u3⟩
          · exact Or.inl hr
          · exact Or.inr ⟨b, a, u1, by rw [q b u1]; exact u2, u3⟩
      · rw [if_neg (by omega)]
        have hlt : w < wn A := by omega
        have nw : pr w = none := hno w (Nat.le_refl _)
        have low : ∀ a c, a < w + 1 → pr a = some c → a < w := fun a c ha q => by
          rcases Nat.lt_or_ge a w with z | z
          · exact z
          · rw [hno a z] at q; cases q
        have ce : cntO pr (w + 1) = cntO pr w := by
          show (if (pr w).isSome then _ else _) = _
          rw [nw]
          rfl
        have S1 := SW.put (pr' := pr) hS h (show w < 8 by omega) h16 (fun _ _ => rfl)
        rw [nw, h34] at S1
        have e0 : enc none = -1 := rfl
        rw [e0] at S1
        obtain ⟨s1, F1, r1, S1', z1, l1, a1, all1⟩ := ih (w + 1) pr F (mn + 1) _ (by omega) (by omega) (by omega) (fun k hk => hno k (by omega))
          (fun a c ha q => by
            obtain ⟨q1, q2, q3, q4⟩ := hW a c (low a c ha q) q
            exact ⟨q1, q2, q3, fun c' hc' q' => q4 c' (low c' c hc' q') q'⟩) S1 hF
        have r1' : mX10_seek n d (MW M σ f (ups e 16 (w : Int) (-1))) M x (iI ((w : Int) + 1)) (iI (mn + 1)) = some s1 := r1
        simp (disch := omega) only [W, Option.bind_some, iL, iI_neg, iI_add, r1']
        have key := loop_inv (body := mX10_seek_L118 n (mX10_seek n d) M x (iI w) (iI mn))
          (fun c => ∃ (t : Nat) (F2 : Int), c.2 = iI t ∧ t ≤ wn A ∧ SW M σ A pr w F2 c.1 ∧ 0 ≤ F2 ∧ F2 ≤ F ∧ (F2 = F ∨ RchP A (un x) F2) ∧ (∀ pr', lpV A (un x) pr' → (∀ k, k < w → pr' k = pr k) → pr' w = none → F2 + cntO pr' (wn A) ≤ wn A) ∧ ∀ y pr', y < t → lpV A (un x) pr' → (∀ k, k < w → pr' k = pr k) → pr' w = some y → F2 + cntO pr' (wn A) ≤ wn A)
          (fun c => wn A - c.2.toNatClampNeg)
          (fun s => ∃ F2 : Int, SW M σ A pr w F2 s ∧ 0 ≤ F2 ∧ F2 ≤ F ∧ (F2 = F ∨ RchP A (un x) F2) ∧ ∀ pr', lpV A (un x) pr' → (∀ k, k < w → pr' k = pr k) → F2 + cntO pr' (wn A) ≤ wn A)
          ?_ n (s1, iI 0) ⟨0, F1, rfl, by omega, S1'.sub (by omega) (fun _ _ => rfl), z1, l1, a1, fun pr' v q qn => all1 pr' v (fun k hk => by
            by_cases z : k = w
            · rw [z, qn, nw]
            · exact q k (by omega)), fun y _ hy => by omega⟩ (by show wn A - (iI 0).toNatClampNeg < n; omega)
        · obtain ⟨s5, k5, F5, S5, z5, l5, a5, all5⟩ := key
          obtain ⟨f5, e5, rfl, h5, h534, h516⟩ := S5
          have W5 := mAll hS
          simp (disch := omega) only [k5, Option.bind_some, W5]
          have S6 := SW.put (pr' := pr) hS h5 (show w < 8 by omega) h516 (fun _ _ => rfl)
          rw [nw, e0, h534] at S6
          exact ⟨_, F5, rfl, S6.sub (by omega) (fun _ _ => rfl), z5, l5, a5, all5⟩
        · rintro ⟨s', x'⟩ ⟨t, F2, hx', ht, S2, z2, l2, a2, no2, all2⟩
          simp only at hx' S2
          subst hx'
          have S2' := S2
          obtain ⟨f2, e2, rfl, h2, h234, h216⟩ := S2
          by_cases ct : t = wn A
          · subst ct
            refine Or.inr ⟨MW M σ f2 e2, ?_, F2, S2', z2, l2, a2, fun pr' v q => ?_⟩
            · simp (disch := omega) only [mX10_seek_L118, W, Option.bind_some, h2.2.2.1.1, iI_le]
              rw [if_pos (by omega)]
            · cases hq : pr' w with
              | none => exact no2 pr' v q hq
              | some y => exact all2 y pr' (v.1 w y hlt hq).1 v q hq
          · have ht2 : t < wn A := by omega
            have mu : wn A - (iI ((t : Int) + 1)).toNatClampNeg < wn A - (iI (t : Int)).toNatClampNeg := by
              rw [iI_clamp (by omega) (by omega), iI_clamp (by omega) (by omega)]
              omega
            have bt1 := (hA.2.2.1.2 t ht2).2.2.1
            have bt2 := (hA.2.2.1.2 w hlt).2.2.1
            have stay : (∀ pr', lpV A (un x) pr' → (∀ k, k < w → pr' k = pr k) → pr' w = some t → False) → (∃ c', some (Sum.inl (MW M σ f2 e2, iI ((t : Int) + 1))) = some (Sum.inl (β := Sg) c') ∧ (∃ (t : Nat) (F2 : Int), c'.2 = iI t ∧ t ≤ wn A ∧ SW M σ A pr w F2 c'.1 ∧ 0 ≤ F2 ∧ F2 ≤ F ∧ (F2 = F ∨ RchP A (un x) F2) ∧ (∀ pr', lpV A (un x) pr' → (∀ k, k < w → pr' k = pr k) → pr' w = none → F2 + cntO pr' (wn A) ≤ wn A) ∧ ∀ y pr', y < t → lpV A (un x) pr' → (∀ k, k < w → pr' k = pr k) → pr' w = some y → F2 + cntO pr' (wn A) ≤ wn A) ∧ wn A - c'.2.toNatClampNeg < wn A - (MW M σ f2 e2, iI (t : Int)).2.toNatClampNeg) := fun q => by
              refine ⟨_, rfl, ⟨t + 1, F2, rfl, by omega, S2', z2, l2, a2, no2, fun y pr' hy v g hq => ?_⟩, mu⟩
              by_cases z : y = t
              · rw [z] at hq; exact (q pr' v g hq).elim
              · exact all2 y pr' (by omega) v g hq
            simp (disch := omega) only [mX10_seek_L118, W, Option.bind_some, h2.2.2.1.1, iI_le, iL, mX10_seek_176, iI_add, iI_eq, (h2.2.2.1.2 t ht2).2.2.1, (h2.2.2.1.2 w hlt).2.2.1]
            rw [if_neg (by omega)]
            by_cases c1 : t = w
            · rw [if_pos (by omega)]
              refine Or.inl (stay (fun pr' v g hq => ?_))
              exact (v.1 w t hlt hq).2.1 c1
            · rw [if_neg (by omega)]
              by_cases c2 : wboot (wk A t) = wboot (wk A w)
              · rw [if_pos (by omega)]
                rcases m_isTaken (n := n) hS h2 hA hlt ht2 h216 (fun k a hk q => (hW k a hk q).1) hn with ⟨⟨k, k1, k2⟩, q2⟩ | ⟨q1, q2⟩
                · simp only [q2, Option.bind_some]
                  rw [if_neg (by decide)]
                  refine Or.inl (stay (fun pr' v g hq => ?_))
                  have := (v.1 w t hlt hq).2.2.2 k (by omega) (by rw [g k k1]; exact k2)
                  omega
                · simp (disch := omega) only [q2, Option.bind_some, W, if_true]
                  have sw : setO pr w t w = some t := by unfold setO; rw [if_pos rfl]
                  have S3 := SW.put (pr' := setO pr w t) hS h2 (show w < 8 by omega) h216 (fun k hk => by unfold setO; rw [if_neg (by omega)])
                  rw [sw, h234] at S3
                  have e3 : enc (some t) = (t : Int) := rfl
                  rw [e3] at S3
                  have ce3 : cntO (setO pr w t) (w + 1) = cntO pr w + 1 := by
                    show (if (setO pr w t w).isSome then cntO (setO pr w t) w + 1 else cntO (setO pr w t) w) = _
                    rw [sw, cntO_congr (g := pr) w (fun a ha => by unfold setO; rw [if_neg (by omega)])]
                    rfl
                  obtain ⟨s4, F4, r4, S4, z4, l4, a4, all4⟩ := ih (w + 1) (setO pr w t) F2 mn _ (by omega) (by omega) (by omega) (fun k hk => by unfold setO; rw [if_neg (by omega)]; exact hno k (by omega))
                    (fun a c ha q => by
                      by_cases z : a = w
                      · subst z
                        rw [sw] at q
                        cases q
                        refine ⟨ht2, c1, c2.symm, fun c' hc' q' => ?_⟩
                        by_cases z' : c' = a
                        · exact z'
                        · unfold setO at q'
                          rw [if_neg z'] at q'
                          exact absurd ⟨c', by omega, q'⟩ q1
                      · unfold setO at q
                        rw [if_neg z] at q
                        obtain ⟨u1, u2, u3, u4⟩ := hW a c (by omega) q
                        refine ⟨u1, u2, u3, fun c' hc' q' => ?_⟩
                        by_cases z' : c' = w
                        · subst z'
                          rw [sw] at q'
                          cases q'
                          exact absurd ⟨a, by omega, q⟩ q1
                        · unfold setO at q'
                          rw [if_neg z'] at q'
                          exact u4 c' (by omega) q') S3 ⟨z2, by omega⟩
                  have r4' : mX10_seek n d (MW M σ f2 (ups e2 16 (w : Int) (t : Int))) M x (iI ((w : Int) + 1)) (iI mn) = some s4 := r4
                  simp only [r4', Option.bind_some]
                  refine Or.inl ⟨_, rfl, ⟨t + 1, F4, rfl, by omega, S4.sub (by omega) (fun k hk => by unfold setO; rw [if_neg (by omega)]), z4, by omega, ?_, fun pr' v g hq => ?_, fun y pr' hy v g hq => ?_⟩, mu⟩
                  · rcases a4 with z | z
                    · rw [z]; exact a2
                    · exact Or.inr z
                  · have := no2 pr' v g hq
                    omega
                  · by_cases z : y = t
                    · rw [z] at hq
                      refine all4 pr' v (fun k hk => ?_)
                      by_cases z' : k = w
                      · rw [z', hq, sw]
                      · unfold setO
                        rw [if_neg z']
                        exact g k (by omega)
                    · have := all2 y pr' (by omega) v g hq
                      omega
              · rw [if_neg (by omega)]
                refine Or.inl (stay (fun pr' v g hq => ?_))
                exact c2 (v.1 w t hlt hq).2.2.1.symm
    · rw [if_neg c]
      refine ⟨_, F, rfl, hSW0, by omega, by omega, Or.inl rfl, fun pr' v g => ?_⟩
      have q1 := cntO_le pr' w (wn A) hw
      have q2 := cntO_congr w g
      omega
theorem m_walkers (hS : Msh M σ) (h : MH A f e) (hA : Wf A) (x : Int32) (hn : 100000 ≤ n) : ∃ r f' e', mX10_walkers n (MW M σ f e) M x = some (iI r, MW M σ f' e') ∧ MH A f' e' ∧ Two (wn A ≤ 6) (-1) (Qry A x (-1) (FWkr A x)) r := by
  have W := mAll hS
  have h8 := hA.2.2.1.1
  unfold mX10_walkers
  simp only [W, Option.bind_some, m_isSet hS h hA x, iL, iI_neg, bI_0]
  by_cases c : un x < 2 ^ fn A
  · rw [if_neg (fun q => q c)]
    have hx := set20 hA c
    simp (disch := omega) only [h.2.2.1.1, iI_lt]
    by_cases c1 : wn A ≤ 6
    · rw [if_neg (by omega)]
      obtain ⟨X, hq⟩ := m_canBe (n := n) hS h hA (show un x < 2147483648 by omega) hn
      rcases hq with ⟨q1, q2⟩ | ⟨q1, q2⟩
      · simp (disch := omega) only [q1, Option.bind_some, W, iI_add, (h.mx X).2.2.1.1]
        rw [if_neg (by decide)]
        have S0 : SW M σ A (fun _ => none) 0 ((wn A : Int) + 1) (MW M σ (updZ f 34 ((wn A : Int) + 1)) (setR e 15 (dX (e 15) X))) := ⟨_, _, rfl, (h.mx X).sc (Sc.f 34 _ (by omega)), updZ_same _ _ _, fun k hk => by omega⟩
        obtain ⟨s', F', r1, ⟨f3, e3, rfl, h3, h334, -⟩, z1, l1, a1, all1⟩ := m_seek (n := n) hS hA c1 (show un x < 2147483648 by omega) hn 9 0 (fun _ => none) ((wn A : Int) + 1) 0 _ rfl (by omega) (by omega) (fun _ _ => rfl) (fun a b q => by omega) S0 (by omega)
        have r1' : mX10_seek n 9 (MW M σ (updZ f 34 ((wn A : Int) + 1)) (setR e 15 (dX (e 15) X))) M x (iI 0) (iI 0) = some (MW M σ f3 e3) := r1
        simp only [r1', Option.bind_some, W, h334]
        refine ⟨_, f3, e3, rfl, h3, Or.inr ⟨c1, Or.inl ⟨c, _, q2, (wn A - F'.toNat), ⟨?_, fun nx v => ?_⟩, ?_⟩⟩⟩
        · have v0 : lpV A (un x) (fun _ => none) := ⟨fun a b _ q => (by cases q), _, q2.1.mono (fun i j v _ _ hr => by
            rcases hr with hr | ⟨b, a, -, u, -⟩
            · exact hr
            · cases u)⟩
          have b0 := all1 _ v0 (fun k hk => by omega)
          have c0 : cntO (fun _ => none) (wn A) = 0 := cntO_stop _ 0 (fun _ _ => rfl) _ (by omega)
          rcases a1 with z | ⟨pr', v', z⟩
          · omega
          · obtain ⟨v1, v2⟩ := inv_V v'
            exact ⟨_, v1, by omega⟩
        · obtain ⟨v1, v2⟩ := inv_P v
          have := all1 _ v1 (fun k hk => by omega)
          omega
        · have v0 : lpV A (un x) (fun _ => none) := ⟨fun a b _ q => (by cases q), _, q2.1.mono (fun i j v _ _ hr => by
            rcases hr with hr | ⟨b, a, -, u, -⟩
            · exact hr
            · cases u)⟩
          have b0 := all1 _ v0 (fun k hk => by omega)
          omega
      · simp only [q1, Option.bind_some, if_true]
        exact ⟨-1, f, _, rfl, h.mx X, Or.inr ⟨c1, Or.inr ⟨Or.inr q2, rfl⟩⟩⟩
    · rw [if_pos (by omega)]
      exact ⟨-1, f, e, rfl, h, Or.inl ⟨c1, rfl⟩⟩
  · rw [if_pos c]
    refine ⟨-1, f, e, rfl, h, ?_⟩
    by_cases c1 : wn A ≤ 6
    · exact Or.inr ⟨c1, Or.inr ⟨Or.inl c, rfl⟩⟩
    · exact Or.inl ⟨c1, rfl⟩
end X70
