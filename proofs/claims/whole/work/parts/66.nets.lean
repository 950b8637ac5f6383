/-! ===== the nets of the searches ===== -/
theorem NetAt.same {σ σ' : Sg} {a g p : Nat} {d : Nat → Int} (h : NetAt σ a g p d) (hs : σ'.2.1 = σ.2.1) (h1 : σ'.2.2 a = σ.2.2 a) (h2 : σ'.2.2 g = σ.2.2 g) : NetAt σ' a g p d := by
  unfold NetAt at h ⊢
  rw [hs, h1, h2]
  exact h
/-- where a net of a search lies -/
abbrev nr (r : Nat) : Prop := (∃ k, k < 7 ∧ r = 15 + 2 * k) ∨ ∃ k, k < 6 ∧ r = 31 + 2 * k
theorem sp_nr {r : Nat} (h : nr r) : r < 69 ∧ sp r 1 = true ∧ ∀ k, sp (r + 1) k = true := by
  rcases h with ⟨k, hk, rfl⟩ | ⟨k, hk, rfl⟩
  · rcases (show k = 0 ∨ k = 1 ∨ k = 2 ∨ k = 3 ∨ k = 4 ∨ k = 5 ∨ k = 6 by omega) with rfl | rfl | rfl | rfl | rfl | rfl | rfl <;> exact ⟨by omega, rfl, fun _ => rfl⟩
  · rcases (show k = 0 ∨ k = 1 ∨ k = 2 ∨ k = 3 ∨ k = 4 ∨ k = 5 by omega) with rfl | rfl | rfl | rfl | rfl | rfl <;> exact ⟨by omega, rfl, fun _ => rfl⟩
/-- a world with a net of a search replaced -/
def nn (B : Nat) (σ : Sg) (r p : Nat) (d : Nat → Int) : Sg := setA (setF σ (B + r) 1 (.int (iI p))) (B + (r + 1)) d
theorem nn_ne {B : Nat} {σ : Sg} {r p : Nat} {d : Nat → Int} {a : Nat} (h1 : a ≠ B + r) (h2 : a ≠ B + (r + 1)) : (nn B σ r p d).2.2 a = σ.2.2 a := by
  unfold nn
  rw [setA_ne _ _ h2, setF_ne _ _ _ h1]
theorem nn_set {B : Nat} {σ : Sg} {r p : Nat} {d e : Nat → Int} : setA (nn B σ r p d) (B + (r + 1)) e = nn B σ r p e := setA_setA _ _ _ _
theorem nn_fr {B : Nat} {σ : Sg} {r p : Nat} {d : Nat → Int} (h : nr r) : Fr B σ (nn B σ r p d) := by
  obtain ⟨h1, h2, h3⟩ := sp_nr h
  exact (Fr.setF (by omega) h2).trans (Fr.setA (by omega) h3)
theorem nn_net {B : Nat} {σ : Sg} {r p q : Nat} {d e : Nat → Int} (h : NetAt σ (B + r) (B + (r + 1)) q e) : NetAt (nn B σ r p d) (B + r) (B + (r + 1)) p d := (h.setP).setA
section X66
variable {B n : Nat} {wa : Nat → Nat} {σ : Sg} {A : AS}
theorem RS.net {τ : Sg} {r : Nat} (h : RS B σ) (hs : τ.2.1 = σ.2.1) (hr : nr r) (hm : ∀ a, a ≠ B + r → a ≠ B + (r + 1) → τ.2.2 a = σ.2.2 a) (hN : NetOK τ (B + r) (B + (r + 1))) : RS B τ := by
  obtain ⟨h1, h2, h3, a1, a2, a3, a4, a5, a6, a7, a8, a9⟩ := h
  have hb : 15 ≤ r ∧ r ≤ 41 ∧ r % 2 = 1 ∧ r ≠ 29 := by
    rcases hr with ⟨k, hk, rfl⟩ | ⟨k, hk, rfl⟩ <;> omega
  refine ⟨h1.same hs (hm _ (by omega) (by omega)) (hm _ (by omega) (by omega)), fun k hk => ?_, fun k hk => ?_, a1.same (hm _ (by omega) (by omega)), a2.same (hm _ (by omega) (by omega)), a3.same (hm _ (by omega) (by omega)), a4.same (hm _ (by omega) (by omega)), a5.same (hm _ (by omega) (by omega)), a6.same (hm _ (by omega) (by omega)), a7.same (hm _ (by omega) (by omega)), a8.same (hm _ (by omega) (by omega)), a9.same (hm _ (by omega) (by omega))⟩
  · by_cases c : r = 15 + 2 * k
    · rw [c] at hN
      rw [show 16 + 2 * k = 15 + 2 * k + 1 by omega]
      exact hN
    · exact (h2 k hk).same hs (hm _ (by omega) (by omega)) (hm _ (by omega) (by omega))
  · by_cases c : r = 31 + 2 * k
    · rw [c] at hN
      rw [show 32 + 2 * k = 31 + 2 * k + 1 by omega]
      exact hN
    · exact (h3 k hk).same hs (hm _ (by omega) (by omega)) (hm _ (by omega) (by omega))
theorem St.nn {r p q : Nat} {d e : Nat → Int} (h : St B wa σ A) (hr : nr r) (hN : NetAt σ (B + r) (B + (r + 1)) q e) (hp : p ≤ 9) (hd : Bs d) : St B wa (nn B σ r p d) A :=
  ⟨h.1.fr (nn_fr hr), h.2.1.net rfl hr (fun _ a b => nn_ne a b) ⟨p, d, hp, nn_net hN, hd⟩, h.2.2⟩
theorem RS.at {r : Nat} (h : RS B σ) (hr : nr r) : ∃ p e, p ≤ 9 ∧ NetAt σ (B + r) (B + (r + 1)) p e ∧ Bs e := by
  rcases hr with ⟨k, hk, rfl⟩ | ⟨k, hk, rfl⟩
  · have := h.2.1 k hk
    rw [show 16 + 2 * k = 15 + 2 * k + 1 by omega] at this
    exact this
  · have := h.2.2.1 k hk
    rw [show 32 + 2 * k = 31 + 2 * k + 1 by omega] at this
    exact this
def cpd (e d : Nat → Int) : Nat → Int := fun k => if k < 81 then e k else d k
theorem net_copy {r b g p q : Nat} {d e : Nat → Int} (hN : NetAt σ (B + r) (B + (r + 1)) p d) (hM : NetAt σ b g q e) (h1 : b ≠ B + r) (h2 : g ≠ B + r) : mX4_copy n σ (B + r) b = some (nn B σ r q (cpd e d)) := by
  obtain ⟨n1, n2, n3, n4, n5, n6⟩ := id hN
  obtain ⟨m1, m2, m3, m4, m5, m6⟩ := id hM
  obtain ⟨s1, s2, s3, s4, s5, s6⟩ := hN.setP (q := q)
  unfold mX4_copy
  rw [isO_ok n1]
  simp only [Option.bind_some, gI_ok m1 (show 1 < 2 by omega) m5, pV_ok n1 (show 1 < 2 by omega)]
  have t1 : (setF σ (B + r) 1 (.int (iI q))).2.1 b = some (4, 2) := m1
  have t4 : (setF σ (B + r) 1 (.int (iI q))).2.2 b 0 = .ref g := by rw [setF_ne _ _ _ h1]; exact m4
  have t6 : (setF σ (B + r) 1 (.int (iI q))).2.2 g = iz e := by rw [setF_ne _ _ _ h2]; exact m6
  have t2 : (setF σ (B + r) 1 (.int (iI q))).2.1 g = some (11, 81) := m2
  simp only [gR_ok t1 (show 0 < 2 by omega) t4, gR_ok s1 (show 0 < 2 by omega) s4, Option.bind_some, lenA_ok s2, iI_0]
  rw [cpA_ok t2 s2 t6 s6 (by omega)]
  rfl
theorem cpd_Bs {d e : Nat → Int} (hd : Bs d) (he : Bs e) : Bs (cpd e d) := fun k => by
  have := hd k
  have := he k
  unfold cpd
  split <;> omega
theorem cpd_NB {p : Nat} {day : Int} {R : Nat → Nat → Int → Prop} {d e : Nat → Int} (h : NB p day R e) (hp : p ≤ 9) (hd : Bs d) : NB p day R (cpd e d) := by
  refine ⟨h.1.same (fun i j hi hj => ?_), h.2.1, cpd_Bs hd h.2.2⟩
  show e (i * 9 + j) = cpd e d (i * 9 + j)
  unfold cpd
  rw [if_pos (by omega)]
theorem NB.Bs {p : Nat} {day : Int} {R : Nat → Nat → Int → Prop} {d : Nat → Int} (h : NB p day R d) : Bs d := h.2.2
theorem NB.Bd {p : Nat} {day : Int} {R : Nat → Nat → Int → Prop} {d : Nat → Int} (h : NB p day R d) : Bd d := fun k => by have := h.2.2 k; omega
end X66
/-! ===== who follows whom ===== -/
/-- how many below m are followed -/
def cntO (nx : Nat → Option Nat) : Nat → Nat
  | 0 => 0
  | k + 1 => if (nx k).isSome then cntO nx k + 1 else cntO nx k
theorem cntO_s (f : Nat → Option Nat) (k : Nat) : cntO f (k + 1) = if (f k).isSome then cntO f k + 1 else cntO f k := rfl
theorem cntO_congr {f g : Nat → Option Nat} : ∀ m, (∀ a, a < m → f a = g a) → cntO f m = cntO g m
  | 0, _ => rfl
  | m + 1, h => by
    unfold cntO
    rw [h m (by omega), cntO_congr m (fun a ha => h a (by omega))]
theorem cntO_le (f : Nat → Option Nat) (k : Nat) : ∀ m, k ≤ m → cntO f m ≤ cntO f k + (m - k)
  | 0, h => by rw [show k = 0 by omega]; omega
  | m + 1, h => by
    by_cases c : k = m + 1
    · subst c; omega
    · have := cntO_le f k m (by omega)
      rw [cntO_s]
      split <;> omega
theorem cntO_stop (f : Nat → Option Nat) (k : Nat) (h : ∀ a, k ≤ a → f a = none) : ∀ m, k ≤ m → cntO f m = cntO f k
  | 0, hm => by rw [show k = 0 by omega]
  | m + 1, hm => by
    by_cases c : k = m + 1
    · subst c; rfl
    · have := cntO_stop f k h m (by omega)
      rw [cntO_s, h m (by omega)]
      simp only [Option.isSome_none, Bool.false_eq_true, if_false]
      exact this
theorem cntO_lt (f : Nat → Option Nat) : ∀ m, cntO f m ≤ m := fun m => by
  have h := cntO_le f 0 m (by omega)
  have e : cntO f 0 = 0 := rfl
  rw [e] at h
  omega
def lkR (A : AS) (S : Nat) (nx : Nat → Option Nat) (m : Nat) : Nat → Nat → Int → Prop := fun i j v => conR A S (fn A) i j v ∨ ∃ a b, a < m ∧ nx a = some b ∧ i = a + 1 ∧ j = b + 1 ∧ v = wend (wk A a) + 1
def lkW (A : AS) (nx : Nat → Option Nat) (m : Nat) : Prop := ∀ a b, a < m → nx a = some b → b < wn A ∧ b ≠ a ∧ wboot (wk A a) = wboot (wk A b) ∧ ∀ c, c < m → nx c = some b → c = a
def lkV (A : AS) (S : Nat) (nx : Nat → Option Nat) : Prop := lkW A nx (wn A) ∧ ∃ Y, CM (wn A + 1) (lkR A S nx (wn A)) Y
def Most (A : AS) (S k : Nat) : Prop := (∃ nx, lkV A S nx ∧ cntO nx (wn A) = k) ∧ ∀ nx, lkV A S nx → cntO nx (wn A) ≤ k
theorem Most.unique {A : AS} {S k j : Nat} (h : Most A S k) (h' : Most A S j) : k = j := by
  obtain ⟨⟨x, x1, x2⟩, x3⟩ := h
  obtain ⟨⟨y, y1, y2⟩, y3⟩ := h'
  have := x3 y y1
  have := y3 x x1
  omega
theorem lkR_stop {A : AS} {S : Nat} {nx : Nat → Option Nat} {k m : Nat} (h : ∀ a, k ≤ a → nx a = none) (hm : k ≤ m) (i j : Nat) (v : Int) : lkR A S nx m i j v ↔ lkR A S nx k i j v := by
  unfold lkR
  constructor
  · rintro (q | ⟨a, b, q1, q2, q3⟩)
    · exact Or.inl q
    · refine Or.inr ⟨a, b, ?_, q2, q3⟩
      rcases Nat.lt_or_ge a k with z | z
      · exact z
      · rw [h a z] at q2; cases q2
  · rintro (q | ⟨a, b, q1, q2, q3⟩)
    · exact Or.inl q
    · exact Or.inr ⟨a, b, by omega, q2, q3⟩
def setO (nx : Nat → Option Nat) (w b : Nat) : Nat → Option Nat := fun a => if a = w then some b else nx a
theorem lkR_set {A : AS} {S : Nat} {nx : Nat → Option Nat} {w b : Nat} (i j : Nat) (v : Int) : lkR A S (setO nx w b) (w + 1) i j v ↔ arcR (lkR A S nx w) (w + 1) (b + 1) (wend (wk A w) + 1) i j v := by
  unfold lkR arcR setO
  constructor
  · rintro (q | ⟨a, c, q1, q2, q3, q4, q5⟩)
    · exact Or.inl (Or.inl q)
    · by_cases e : a = w
      · subst e
        rw [if_pos rfl] at q2
        cases q2
        exact Or.inr ⟨q3, q4, q5⟩
      · rw [if_neg e] at q2
        exact Or.inl (Or.inr ⟨a, c, by omega, q2, q3, q4, q5⟩)
  · rintro ((q | ⟨a, c, q1, q2, q3⟩) | ⟨q1, q2, q3⟩)
    · exact Or.inl q
    · exact Or.inr ⟨a, c, by omega, by rw [if_neg (by omega)]; exact q2, q3⟩
    · exact Or.inr ⟨w, b, by omega, by rw [if_pos rfl], q1, q2, q3⟩
