/-! ===== the two objects side by side ===== -/
section X93
variable {B n q p b : Nat} {wa : Nat → Nat} {s sb σ : Sg} {A : AS}
/-- the class stands whatever the reference's cells hold -/
theorem St.ext2 (h : St B wa sb A) (h1 : sb.1 ≤ s.1) (h2 : ∀ a, a < sb.1 → s.2.1 a = sb.2.1 a) (h3 : ∀ a, a < sb.1 → a < B + 70 ∨ B + 90 ≤ a → s.2.2 a = sb.2.2 a) : St B wa s A := by
  obtain ⟨hC, ⟨a, b, c, a1, a2, a3, a4, a5, a6, a7, a8, a9⟩, hA⟩ := h
  have hz : B + 90 ≤ sb.1 := hC.2.2.2.2.2.2.2.2.2.2.2.2
  have h20 := hA.2.2.2.1.1
  obtain ⟨k0, kt, kw, kf, ks⟩ := hC.split
  have m : ∀ r, r < 70 → s.2.2 (B + r) = sb.2.2 (B + r) := fun r hr => h3 _ (by omega) (by omega)
  have m0 : s.2.2 B = sb.2.2 B := h3 _ (by omega) (by omega)
  have nok : ∀ r r', r < 70 → r' < 70 → NetOK sb (B + r) (B + r') → NetOK s (B + r) (B + r') := fun r r' hr hr' ⟨p, e, hp, hN, hB⟩ => by
    refine ⟨p, e, hp, ?_, hB⟩
    unfold NetAt at hN ⊢
    rw [h2 _ (by omega), h2 _ (by omega), m r hr, m r' hr']
    exact hN
  exact ⟨RC.join (k0.same (by omega) (fun r hr => h2 _ (by omega)) (fun r k hr _ => by rw [m r (by omega)])) (kt.same (by rw [m 1 (by omega)]) (m 2 (by omega))) (kw.same h1 (fun a _ ha => h2 a ha) (by rw [m0]) (m 3 (by omega)) (fun a hb ha => h3 a ha (by omega))) (kf.same (fun r hr => h2 _ (by omega)) h20 (by rw [m0]) (fun r _ hr => m r (by omega))) (ks.same (by rw [m0]) (m 5 (by omega))),
    ⟨nok _ _ (by omega) (by omega) a, fun k hk => nok _ _ (by omega) (by omega) (b k hk), fun k hk => nok _ _ (by omega) (by omega) (c k hk), a1.same (m _ (by omega)), a2.same (m _ (by omega)), a3.same (m _ (by omega)), a4.same (m _ (by omega)), a5.same (m _ (by omega)), a6.same (m _ (by omega)), a7.same (m _ (by omega)), a8.same (m _ (by omega)), a9.same (m _ (by omega))⟩, hA⟩
theorem St.mw (h : St B wa σ A) (f : Nat → Int) (e : Nat → Int → Int) : St B wa (MW (B + 70) σ f e) A := h.ext2 (Nat.le_refl _) (fun _ _ => rfl) (fun a _ ha => MW_far _ _ _ _ (by omega))
theorem St.sz (h : St B wa σ A) : B + 90 ≤ σ.1 := h.1.2.2.2.2.2.2.2.2.2.2.2.2
/-- the reference's world is kept by a call of the class -/
theorem MW_kp {σ' : Sg} {f : Nat → Int} {e : Nat → Int → Int} (hz : B + 90 ≤ σ.1) (h : σ = MW (B + 70) σ f e) (hS : Msh (B + 70) σ) (k : Kp B σ σ') : σ' = MW (B + 70) σ' f e ∧ Msh (B + 70) σ' := by
  refine ⟨Prod.ext rfl (Prod.ext rfl (funext fun a => ?_)), fun j hj => (k.2.1 _ (by omega)).trans (hS j hj)⟩
  by_cases c : B + 70 ≤ a ∧ a < B + 89
  · have e1 := k.2.2 a c.1 (by omega)
    have e2 : σ.2.2 a = (MW (B + 70) σ f e).2.2 a := congrArg (fun t : Sg => t.2.2 a) h
    rw [e1, e2]
    by_cases c2 : a = B + 70
    · funext i
      rw [c2, MW_M, MW_M]
    · obtain ⟨r, rfl⟩ : ∃ r, a = B + 70 + r := ⟨a - (B + 70), by omega⟩
      rw [MW_r _ _ _ _ (by omega) (by omega), MW_r _ _ _ _ (by omega) (by omega)]
  · rw [MW_far _ _ _ _ (by omega)]
theorem MW_MW {M : Nat} {f f' : Nat → Int} {e e' : Nat → Int → Int} : MW M (MW M σ f e) f' e' = MW M σ f' e' := by
  refine Prod.ext rfl (Prod.ext rfl (funext fun a => ?_))
  by_cases c : a = M
  · funext i
    rw [c, MW_M, MW_M]
  · by_cases c1 : M < a ∧ a < M + 19
    · obtain ⟨r, rfl⟩ : ∃ r, a = M + r := ⟨a - M, by omega⟩
      rw [MW_r _ _ _ _ (by omega) (by omega), MW_r _ _ _ _ (by omega) (by omega)]
    · rw [MW_far _ _ _ _ (by omega), MW_far _ _ _ _ (by omega), MW_far _ _ _ _ (by omega)]
/-- both calls, one after the other -/
theorem Jn.two {A' : AS} {wa' : Nat → Nat} {σ' : Sg} {f' : Nat → Int} {e' : Nat → Int → Int} (hz : B + 90 ≤ σ.1) (k : Kp B σ σ') (h1 : St B wa' σ' A') (h2 : MH A' f' e') (hS : Msh (B + 70) σ') (ho : σ.2.1 (B + 89) = some (12, 1)) (hx : ∃ x, σ.2.2 (B + 89) 0 = .long x) : Jn B (MW (B + 70) σ' f' e') A' := by
  obtain ⟨x, hx⟩ := hx
  refine ⟨wa', f', e', h1.mw f' e', MW_MW.symm, hS, h2, (k.2.1 _ (by omega)).trans ho, x, ?_⟩
  rw [MW_far _ _ _ _ (by omega), k.2.2 _ (by omega) (by omega)]
  exact hx
/-- what a pair of calls gives -/
def JP (B : Nat) (m1 : Sg → Option (Int32 × Sg)) (m2 : Sg → Option (Int32 × Sg)) (σ : Sg) : Prop := ∃ r σ1 σ2 A', m1 σ = some (r, σ1) ∧ m2 σ1 = some (r, σ2) ∧ Jn B σ2 A'
/-- calls that answer and may change the state -/
theorem Jn.chg {m1 m2 : Sg → Option (Int32 × Sg)} {R : AS → Int → Prop} (h : Jn B σ A) (hu : ∀ A1 A2 r1 r2, R A1 r1 → R A2 r2 → A1 = A2 ∧ r1 = r2)
    (c1 : ∀ wa, St B wa σ A → ∃ r A' wa' σ', m1 σ = some (iI r, σ') ∧ St B wa' σ' A' ∧ Kp B σ σ' ∧ R A' r)
    (c2 : ∀ (σ' : Sg) f e, Msh (B + 70) σ' → MH A f e → Wf A → ∃ r A' f' e', m2 (MW (B + 70) σ' f e) = some (iI r, MW (B + 70) σ' f' e') ∧ MH A' f' e' ∧ R A' r) : JP B m1 m2 σ := by
  obtain ⟨wa, f, e, g1, g2, g3, g4, g5, g6⟩ := h
  obtain ⟨r, A1, wa', σ', a1, a2, a3, a4⟩ := c1 wa g1
  obtain ⟨k1, k2⟩ := MW_kp g1.sz g2 g3 a3
  obtain ⟨r', A2, f', e', b1, b2, b3⟩ := c2 σ' f e k2 g4 g1.2.2
  obtain ⟨u1, u2⟩ := hu _ _ _ _ a4 b3
  subst u1
  subst u2
  exact ⟨_, _, _, A1, a1, (congrArg m2 k1).trans b1, Jn.two g1.sz a3 a2 b2 k2 g5 g6⟩
/-- calls that ask -/
theorem Jn.ask {m1 m2 : Sg → Option (Int32 × Sg)} {R : Int → Prop} (h : Jn B σ A) (hu : Wf A → ∀ r1 r2, R r1 → R r2 → r1 = r2)
    (c1 : ∀ wa, St B wa σ A → ∃ r σ', m1 σ = some (iI r, σ') ∧ St B wa σ' A ∧ Fr B σ σ' ∧ R r)
    (c2 : ∀ (σ' : Sg) f e, Msh (B + 70) σ' → MH A f e → Wf A → ∃ r f' e', m2 (MW (B + 70) σ' f e) = some (iI r, MW (B + 70) σ' f' e') ∧ MH A f' e' ∧ R r) : JP B m1 m2 σ := by
  have hA : Wf A := by
    obtain ⟨wa, f, e, g1, -⟩ := h
    exact g1.2.2
  refine h.chg (R := fun A1 r => A1 = A ∧ R r) (fun A1 A2 r1 r2 p q => ⟨p.1.trans q.1.symm, hu hA _ _ p.2 q.2⟩) (fun wa hs => ?_) (fun σ' f e p q w => ?_)
  · obtain ⟨r, σ', a, b, c, d⟩ := c1 wa hs
    exact ⟨r, A, wa, σ', a, b, c.kp, rfl, d⟩
  · obtain ⟨r, f', e', a, b, c⟩ := c2 σ' f e p q w
    exact ⟨r, A, f', e', a, b, rfl, c⟩
theorem RI_of (x : Int32) : RI x.toInt := ⟨Int32.le_toInt x, Int32.toInt_lt x⟩
end X93
