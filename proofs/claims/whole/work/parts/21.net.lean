/-! ===== the class's nets: what their methods do ===== -/
/-- a Net at a with its gaps at g: so many points, these least gaps -/
def NetAt (σ : Sg) (a g : Nat) (p : Int) (d : Nat → Int) : Prop := σ.2.1 a = some (4, 2) ∧ σ.2.1 g = some (11, 81) ∧ a ≠ g ∧ σ.2.2 a 0 = .ref g ∧ σ.2.2 a 1 = .int (iI p) ∧ σ.2.2 g = iz d
theorem NetAt.setA {σ : Sg} {a g : Nat} {p : Int} {d e : Nat → Int} (h : NetAt σ a g p d) : NetAt (setA σ g e) a g p e := by
  obtain ⟨h1, h2, h3, h4, h5, h6⟩ := h
  exact ⟨h1, h2, h3, by rw [setA_ne _ _ h3]; exact h4, by rw [setA_ne _ _ h3]; exact h5, setA_self _ _ _⟩
theorem net_least {σ : Sg} {a g n : Nat} {p i j : Int} {d : Nat → Int} (h : NetAt σ a g p d) (hi : 0 ≤ i ∧ i < 9) (hj : 0 ≤ j ∧ j < 9) : mX4_least n σ a (iI i) (iI j) = some (iI (d (i * 9 + j).toNat), σ) := by
  obtain ⟨h1, h2, h3, h4, h5, h6⟩ := h
  unfold mX4_least
  rw [isO_ok h1, gR_ok h1 (by omega) h4]
  simp only [Option.bind_some, iI_lit, iI_mul, iI_add]
  rw [aI_ok h2 h6 (by omega) (by omega) (by omega)]
  rfl
