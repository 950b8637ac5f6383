/-! ===== the class's working cells; queries that ask a net ===== -/
def NetOK (σ : Sg) (a g : Nat) : Prop := ∃ p e, p ≤ 9 ∧ NetAt σ a g p e ∧ Bs e
def IsI (σ : Sg) (a : Nat) : Prop := ∃ e, σ.2.2 a = iz e
/-- the class's working cells are of their kinds -/
def RS (B : Nat) (σ : Sg) : Prop := NetOK σ (B + 6) (B + 7) ∧ (∀ k, k < 7 → NetOK σ (B + (15 + 2 * k)) (B + (16 + 2 * k))) ∧ (∀ k, k < 6 → NetOK σ (B + (31 + 2 * k)) (B + (32 + 2 * k))) ∧ IsI σ (B + 9) ∧ IsI σ (B + 10) ∧ IsI σ (B + 13) ∧ IsI σ (B + 14) ∧ IsI σ (B + 44) ∧ IsI σ (B + 45) ∧ IsI σ (B + 47) ∧ IsI σ (B + 48) ∧ IsI σ (B + 49)
theorem NetOK.same {σ σ' : Sg} {a g : Nat} (h : NetOK σ a g) (hs : σ'.2.1 = σ.2.1) (h1 : σ'.2.2 a = σ.2.2 a) (h2 : σ'.2.2 g = σ.2.2 g) : NetOK σ' a g := by
  obtain ⟨p, e, hp, hN, hB⟩ := h
  refine ⟨p, e, hp, ?_, hB⟩
  unfold NetAt at hN ⊢
  rw [hs, h1, h2]
  exact hN
theorem IsI.same {σ σ' : Sg} {a : Nat} (h : IsI σ a) (h1 : σ'.2.2 a = σ.2.2 a) : IsI σ' a := by
  obtain ⟨e, he⟩ := h
  exact ⟨e, h1.trans he⟩
/-- the class stands: its heap holds A, its working cells are well -/
def St (B : Nat) (wa : Nat → Nat) (σ : Sg) (A : AS) : Prop := RC B wa σ A ∧ RS B σ ∧ Wf A
theorem dn_ne {B : Nat} {σ : Sg} {A : AS} {d : Nat → Int} {a : Nat} (h6 : a ≠ B + 6) (h7 : a ≠ B + 7) : (dn B σ A d).2.2 a = σ.2.2 a := by
  unfold dn
  rw [setA_ne _ _ h7, setF_ne _ _ _ h6]
section X33
variable {B n : Nat} {wa : Nat → Nat} {σ : Sg} {A : AS}
theorem RS.dn (h : RS B σ) (hC : RC B wa σ A) (hA : Wf A) {d : Nat → Int} (hd : Bs d) : RS B (dn B σ A d) := by
  obtain ⟨⟨p, e, hp, hN, hB⟩, h2, h3, a1, a2, a3, a4, a5, a6, a7, a8, a9⟩ := h
  refine ⟨⟨wn A + 1, d, by have := hA.2.2.1.1; omega, dn_net hC hN, hd⟩, fun k hk => (h2 k hk).same rfl (dn_ne (by omega) (by omega)) (dn_ne (by omega) (by omega)), fun k hk => (h3 k hk).same rfl (dn_ne (by omega) (by omega)) (dn_ne (by omega) (by omega)), a1.same (dn_ne (by omega) (by omega)), a2.same (dn_ne (by omega) (by omega)), a3.same (dn_ne (by omega) (by omega)), a4.same (dn_ne (by omega) (by omega)), a5.same (dn_ne (by omega) (by omega)), a6.same (dn_ne (by omega) (by omega)), a7.same (dn_ne (by omega) (by omega)), a8.same (dn_ne (by omega) (by omega)), a9.same (dn_ne (by omega) (by omega))⟩
theorem St.dn (h : St B wa σ A) {d : Nat → Int} (hd : Bs d) : St B wa (dn B σ A d) A := ⟨h.1.fr (dn_fr d), h.2.1.dn h.1 h.2.2 hd, h.2.2⟩
theorem can_mono {S m k : Nat} (hm : m ≤ k) (h : can A S k) : can A S m := by
  obtain ⟨Y, hY⟩ := h
  refine ⟨Y, hY.mono (fun i j v _ _ hr => ?_)⟩
  rcases hr with hr | ⟨f, hf, hr⟩
  · exact Or.inl hr
  · exact Or.inr ⟨f, by omega, hr⟩
/-- the least matrix of a set -/
abbrev LSx (A : AS) (S : Nat) (X : Nat → Nat → Int) : Prop := LM (wn A + 1) (conR A S (fn A)) X
theorem x_canBe (h : St B wa σ A) (x : Int32) (hn : 100000 ≤ n) :
    (¬ un x < 2 ^ fn A ∧ mX9_canBe n σ B x = some (0, σ)) ∨ (un x < 2 ^ fn A ∧ ∃ d, Bs d ∧ ((mX9_canBe n σ B x = some (1, dn B σ A d) ∧ NB (wn A + 1) (day A) (conR A (un x) (fn A)) d) ∨ (mX9_canBe n σ B x = some (0, dn B σ A d) ∧ ¬ can A (un x) (fn A)))) := by
  obtain ⟨hC, hS, hA⟩ := h
  obtain ⟨⟨p, e, hp, hN, hB⟩, -⟩ := hS
  have hf := hA.2.2.2.1.1
  by_cases c : un x < 2 ^ fn A
  · refine Or.inr ⟨c, ?_⟩
    obtain ⟨d, hd, hq⟩ := x_drawNet (n := n) hC hA hN hB x hn
    refine ⟨d, hd, ?_⟩
    rcases hq with ⟨q1, q2⟩ | ⟨m, m1, m2, q1, q2, q3⟩
    · refine Or.inl ⟨?_, q2⟩
      unfold mX9_canBe
      simp only [hC.o, Option.bind_some, x_isSet hC hA x, if_pos c, q1]
      rw [if_neg (by decide), if_pos trivial]
    · refine Or.inr ⟨?_, fun q => q3 (can_mono (by omega) q)⟩
      unfold mX9_canBe
      simp only [hC.o, Option.bind_some, x_isSet hC hA x, if_pos c, q1]
      rw [if_neg (by decide), if_neg (fun q => by have := (c_eqm (RI.sm (by omega) (by omega))).mp q; omega)]
  · refine Or.inl ⟨c, ?_⟩
    unfold mX9_canBe
    simp only [hC.o, Option.bind_some, x_isSet hC hA x, if_neg c]
    rw [if_pos trivial]
/-- a query of a set: what F says of its least matrix, or no -/
def Qry (A : AS) (x : Int32) (no : Int) (F : (Nat → Nat → Int) → Int → Prop) (r : Int) : Prop := (un x < 2 ^ fn A ∧ ∃ X, LSx A (un x) X ∧ F X r) ∨ ((¬ un x < 2 ^ fn A ∨ ¬ can A (un x) (fn A)) ∧ r = no)
theorem Qry.unique {x : Int32} {no : Int} {F : (Nat → Nat → Int) → Int → Prop} {r r' : Int} (hF : ∀ X X' r r', (∀ i j, i < wn A + 1 → j < wn A + 1 → X i j = X' i j) → F X r → F X' r' → r = r') (h : Qry A x no F r) (h' : Qry A x no F r') : r = r' := by
  rcases h with ⟨a, X, hX, hr⟩ | ⟨a, hr⟩ <;> rcases h' with ⟨b, X', hX', hr'⟩ | ⟨b, hr'⟩
  · exact hF X X' r r' (fun i j hi hj => hX.unique hX' hi hj) hr hr'
  · rcases b with b | b
    · exact absurd a b
    · exact absurd ⟨X, hX.1⟩ b
  · rcases a with a | a
    · exact absurd b a
    · exact absurd ⟨X', hX'.1⟩ a
  · omega
theorem x_can (h : St B wa σ A) (x : Int32) (hn : 100000 ≤ n) : ∃ r σ', mX9_can n σ B x = some (iI r, σ') ∧ St B wa σ' A ∧ Fr B σ σ' ∧ ((¬ un x < 2 ^ fn A ∧ r = -1) ∨ (un x < 2 ^ fn A ∧ can A (un x) (fn A) ∧ r = 1) ∨ (un x < 2 ^ fn A ∧ ¬ can A (un x) (fn A) ∧ r = 0)) := by
  obtain ⟨hC, hS, hA⟩ := id h
  obtain ⟨⟨p, e, hp, hN, hB⟩, -⟩ := hS
  have hf := hA.2.2.2.1.1
  by_cases c : un x < 2 ^ fn A
  · obtain ⟨d, hd, hq⟩ := x_drawNet (n := n) hC hA hN hB x hn
    rcases hq with ⟨q1, q2⟩ | ⟨m, m1, m2, q1, q2, q3⟩
    · refine ⟨1, _, ?_, h.dn hd, dn_fr d, Or.inr (Or.inl ⟨c, ⟨_, q2.1.1⟩, rfl⟩)⟩
      unfold mX9_can
      simp only [hC.o, Option.bind_some, x_isSet hC hA x, if_pos c, q1]
      rw [if_neg (by decide), if_pos trivial]; rfl
    · refine ⟨0, _, ?_, h.dn hd, dn_fr d, Or.inr (Or.inr ⟨c, fun q => q3 (can_mono (by omega) q), rfl⟩)⟩
      unfold mX9_can
      simp only [hC.o, Option.bind_some, x_isSet hC hA x, if_pos c, q1]
      rw [if_neg (by decide), if_neg (fun q => by have := (c_eqm (RI.sm (by omega) (by omega))).mp q; omega)]; rfl
  · refine ⟨-1, σ, ?_, h, Fr.refl B σ, Or.inl ⟨c, rfl⟩⟩
    unfold mX9_can
    simp only [hC.o, Option.bind_some, x_isSet hC hA x, if_neg c]
    rw [if_pos trivial]; rfl
/-- BARS: the lowest fact of a set with which those up to it can not be; -1 without -/
def Bars (A : AS) (x : Int32) (r : Int) : Prop := ((¬ un x < 2 ^ fn A ∨ can A (un x) (fn A)) ∧ r = -1) ∨ (un x < 2 ^ fn A ∧ ∃ m : Nat, m < fn A ∧ bt (un x) m ∧ can A (un x) m ∧ ¬ can A (un x) (m + 1) ∧ r = m)
theorem x_bars (h : St B wa σ A) (x : Int32) (hn : 100000 ≤ n) : ∃ r σ', mX9_bars n σ B x = some (iI r, σ') ∧ St B wa σ' A ∧ Fr B σ σ' ∧ Bars A x r := by
  obtain ⟨hC, hS, hA⟩ := id h
  obtain ⟨⟨p, e, hp, hN, hB⟩, -⟩ := hS
  by_cases c : un x < 2 ^ fn A
  · obtain ⟨d, hd, hq⟩ := x_drawNet (n := n) hC hA hN hB x hn
    rcases hq with ⟨q1, q2⟩ | ⟨m, m1, m2, q1, q2, q3⟩
    · refine ⟨-1, _, ?_, h.dn hd, dn_fr d, Or.inl ⟨Or.inr ⟨_, q2.1.1⟩, rfl⟩⟩
      unfold mX9_bars
      simp only [hC.o, Option.bind_some, x_isSet hC hA x, if_pos c, q1]
      rw [if_neg (by decide)]; rfl
    · refine ⟨m, _, ?_, h.dn hd, dn_fr d, Or.inr ⟨c, m, m1, m2, q2, q3, rfl⟩⟩
      unfold mX9_bars
      simp only [hC.o, Option.bind_some, x_isSet hC hA x, if_pos c, q1]
      rw [if_neg (by decide)]
  · refine ⟨-1, σ, ?_, h, Fr.refl B σ, Or.inl ⟨Or.inl c, rfl⟩⟩
    unfold mX9_bars
    simp only [hC.o, Option.bind_some, x_isSet hC hA x, if_neg c]
    rw [if_pos trivial]; rfl
end X33
section X33b
variable {B n : Nat} {wa : Nat → Nat} {σ : Sg} {A : AS}
theorem net_firstOf {a g p w : Nat} {d : Nat → Int} (h : NetAt σ a g p d) (hp : p ≤ 9) (hw : w + 1 < p) : mX4_firstOf n σ a (iI w) = some (iI (d (w + 1)), σ) := by
  unfold mX4_firstOf
  have e1 : iI (w : Int) + (1 : Int32) = iI ((w + 1 : Nat) : Int) := by rw [iI_1, iI_add]; rfl
  have e2 := net_least (n := n) h hp (i := 0) (j := w + 1) (by omega) (by omega)
  rw [show ((0 : Nat) * 9 + (w + 1)) = w + 1 by omega] at e2
  have e3 : (0 : Int32) = iI ((0 : Nat) : Int) := rfl
  simp only [isO_ok h.1, Option.bind_some, mX9_pointOf, e1, e3, e2]
theorem net_lastOf {a g p w : Nat} {d : Nat → Int} (h : NetAt σ a g p d) (hp : p ≤ 9) (hw : w + 1 < p) : mX4_lastOf n σ a (iI w) = some (iI (-d ((w + 1) * 9)), σ) := by
  unfold mX4_lastOf
  have e1 : iI (w : Int) + (1 : Int32) = iI ((w + 1 : Nat) : Int) := by rw [iI_1, iI_add]; rfl
  have e2 := net_least (n := n) h hp (i := w + 1) (j := 0) (by omega) (by omega)
  rw [show (w + 1) * 9 + 0 = (w + 1) * 9 by omega] at e2
  have e3 : (0 : Int32) = iI ((0 : Nat) : Int) := rfl
  simp only [isO_ok h.1, Option.bind_some, mX9_pointOf, e1, e3, e2, iI_neg]
theorem net_leastGap {a g p v w : Nat} {d : Nat → Int} (h : NetAt σ a g p d) (hp : p ≤ 9) (hv : v + 1 < p) (hw : w + 1 < p) : mX4_leastGap n σ a (iI v) (iI w) = some (iI (mat d (v + 1) (w + 1)), σ) := by
  unfold mX4_leastGap
  have e1 : ∀ w : Nat, iI (w : Int) + (1 : Int32) = iI ((w + 1 : Nat) : Int) := fun w => by rw [iI_1, iI_add]; rfl
  have e2 := net_least (n := n) h hp (i := v + 1) (j := w + 1) (by omega) (by omega)
  simp only [isO_ok h.1, Option.bind_some, mX9_pointOf, e1, e2]
  rfl
theorem net_greatestGap {a g p v w : Nat} {d : Nat → Int} (h : NetAt σ a g p d) (hp : p ≤ 9) (hv : v + 1 < p) (hw : w + 1 < p) : mX4_greatestGap n σ a (iI v) (iI w) = some (iI (-mat d (w + 1) (v + 1)), σ) := by
  unfold mX4_greatestGap
  have e1 : ∀ w : Nat, iI (w : Int) + (1 : Int32) = iI ((w + 1 : Nat) : Int) := fun w => by rw [iI_1, iI_add]; rfl
  have e2 := net_least (n := n) h hp (i := w + 1) (j := v + 1) (by omega) (by omega)
  simp only [isO_ok h.1, Option.bind_some, mX9_pointOf, e1, e2, iI_neg]
  rfl
theorem isW.nat {z : Int} (h : isW A z) : ∃ w : Nat, w < wn A ∧ z = w ∧ z.toNat = w := ⟨z.toNat, by have := h.1; have := h.2; omega, by have := h.1; omega, rfl⟩
theorem isW.RI {z : Int} (hA : Wf A) (h : isW A z) : RI z := by have := h.1; have := h.2; have := hA.2.2.1.1; exact RI.sm (by omega) (by omega)
/-- what begins asks of the matrix -/
def FBeg (A : AS) (w what : Int) (X : Nat → Nat → Int) (r : Int) : Prop := r = if what = 0 then X 0 (w.toNat + 1) else -X (w.toNat + 1) 0
def Begins (A : AS) (x : Int32) (w what r : Int) : Prop := ((¬ (0 ≤ what ∧ what ≤ 1) ∨ ¬ isW A w) ∧ r = -1) ∨ ((0 ≤ what ∧ what ≤ 1) ∧ isW A w ∧ Qry A x (-1) (FBeg A w what) r)
theorem x_begins (h : St B wa σ A) (x : Int32) {w what : Int} (hw : RI w) (hq : RI what) (hn : 100000 ≤ n) : ∃ r σ', mX9_begins n σ B x (iI w) (iI what) = some (iI r, σ') ∧ St B wa σ' A ∧ Fr B σ σ' ∧ Begins A x w what r := by
  obtain ⟨hC, hS, hA⟩ := id h
  have h8 := hA.2.2.1.1
  unfold mX9_begins
  simp only [hC.o, Option.bind_some, x_walkOf hC hA hw]
  by_cases c0 : what < 0
  · rw [if_pos ((c_lt0 hq).mpr c0)]
    exact ⟨-1, σ, rfl, h, Fr.refl B σ, Or.inl ⟨Or.inl (by omega), rfl⟩⟩
  · rw [if_neg (fun q => c0 ((c_lt0 hq).mp q))]
    by_cases c1 : 1 < what
    · rw [if_pos ((c_Llt 1 (by omega) hq).mpr c1)]
      exact ⟨-1, σ, rfl, h, Fr.refl B σ, Or.inl ⟨Or.inl (by omega), rfl⟩⟩
    · rw [if_neg (fun q => c1 ((c_Llt 1 (by omega) hq).mp q))]
      by_cases c2 : 0 ≤ w ∧ w < wn A
      · obtain ⟨v, v1, v2, v3⟩ := isW.nat c2
        simp only [if_pos c2]
        rcases x_canBe (n := n) h x hn with ⟨k1, k2⟩ | ⟨k1, d, hd, ⟨k2, k3⟩ | ⟨k2, k3⟩⟩
        · simp only [k2, Option.bind_some]
          rw [if_pos trivial]
          exact ⟨-1, σ, rfl, h, Fr.refl B σ, Or.inr ⟨by omega, c2, Or.inr ⟨Or.inl k1, rfl⟩⟩⟩
        · have hC' := (h.dn hd).1
          obtain ⟨⟨p, e, hp, hN, hB⟩, -⟩ := hS
          have hNd := dn_net hC (d := d) hN
          simp only [k2, Option.bind_some]
          rw [if_neg (by decide)]
          by_cases c3 : what = 0
          · rw [if_pos (by rw [c3]; rfl)]
            simp only [hC'.r11, Option.bind_some, v2, net_firstOf hNd (show wn A + 1 ≤ 9 by omega) (show v + 1 < wn A + 1 by omega)]
            refine ⟨_, _, rfl, h.dn hd, dn_fr d, Or.inr ⟨by omega, v2 ▸ c2, Or.inl ⟨k1, mat d, k3.1, ?_⟩⟩⟩
            unfold FBeg
            rw [if_pos c3]
            show _ = d (0 * 9 + ((v : Int).toNat + 1))
            rw [show (0 * 9 + ((v : Int).toNat + 1)) = v + 1 by omega]
          · rw [if_neg (fun q => c3 ((c_eq0 hq).mp q))]
            simp only [hC'.r11, Option.bind_some, v2, net_lastOf hNd (show wn A + 1 ≤ 9 by omega) (show v + 1 < wn A + 1 by omega)]
            refine ⟨_, _, rfl, h.dn hd, dn_fr d, Or.inr ⟨by omega, v2 ▸ c2, Or.inl ⟨k1, mat d, k3.1, ?_⟩⟩⟩
            unfold FBeg
            rw [if_neg c3]
            show _ = -d (((v : Int).toNat + 1) * 9 + 0)
            rw [show (((v : Int).toNat + 1) * 9 + 0) = (v + 1) * 9 by omega]
        · simp only [k2, Option.bind_some]
          rw [if_pos trivial]
          exact ⟨-1, _, rfl, h.dn hd, dn_fr d, Or.inr ⟨by omega, c2, Or.inr ⟨Or.inr k3, rfl⟩⟩⟩
      · simp only [if_neg c2]
        exact ⟨-1, σ, rfl, h, Fr.refl B σ, Or.inl ⟨Or.inr c2, rfl⟩⟩
end X33b
