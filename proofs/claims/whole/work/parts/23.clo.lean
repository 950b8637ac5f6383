/-! ===== closed bounds: the least matrix above given gaps ===== -/
/-- X is closed over the points below p and above the gaps R (R i j v: point j is at least v behind point i) -/
def CM (p : Nat) (R : Nat → Nat → Int → Prop) (X : Nat → Nat → Int) : Prop :=
  (∀ i, i < p → X i i = 0) ∧ (∀ i j v, i < p → j < p → R i j v → v ≤ X i j) ∧ ∀ i j k, i < p → j < p → k < p → X i j + X j k ≤ X i k
def LM (p : Nat) (R : Nat → Nat → Int → Prop) (X : Nat → Nat → Int) : Prop := CM p R X ∧ ∀ Y, CM p R Y → ∀ i j, i < p → j < p → X i j ≤ Y i j
def arcR (R : Nat → Nat → Int → Prop) (u o : Nat) (r : Int) : Nat → Nat → Int → Prop := fun i j v => R i j v ∨ (i = u ∧ j = o ∧ v = r)
theorem LM.unique {p : Nat} {R : Nat → Nat → Int → Prop} {X Y : Nat → Nat → Int} (h1 : LM p R X) (h2 : LM p R Y) {i j : Nat} (hi : i < p) (hj : j < p) : X i j = Y i j := by
  have a := h1.2 Y h2.1 i j hi hj
  have b := h2.2 X h1.1 i j hi hj
  omega
theorem CM.mono {p : Nat} {R R' : Nat → Nat → Int → Prop} {X : Nat → Nat → Int} (h : CM p R X) (hR : ∀ i j v, i < p → j < p → R' i j v → R i j v) : CM p R' X := ⟨h.1, fun i j v hi hj hr => h.2.1 i j v hi hj (hR i j v hi hj hr), h.2.2⟩
theorem LM.congr {p : Nat} {R R' : Nat → Nat → Int → Prop} {X : Nat → Nat → Int} (h : LM p R X) (hR : ∀ Y, CM p R Y ↔ CM p R' Y) : LM p R' X := ⟨(hR X).mp h.1, fun Y hY => h.2 Y ((hR Y).mpr hY)⟩
theorem LM.same {p : Nat} {R : Nat → Nat → Int → Prop} {X X' : Nat → Nat → Int} (h : LM p R X) (hX : ∀ i j, i < p → j < p → X i j = X' i j) : LM p R X' := by
  obtain ⟨⟨h1, h2, h3⟩, h4⟩ := h
  refine ⟨⟨fun i hi => by rw [← hX i i hi hi]; exact h1 i hi, fun i j v hi hj hr => by rw [← hX i j hi hj]; exact h2 i j v hi hj hr, fun i j k hi hj hk => by rw [← hX i j hi hj, ← hX j k hj hk, ← hX i k hi hk]; exact h3 i j k hi hj hk⟩, fun Y hY i j hi hj => by rw [← hX i j hi hj]; exact h4 Y hY i j hi hj⟩
theorem LM.bad {p : Nat} {R : Nat → Nat → Int → Prop} {X : Nat → Nat → Int} (h : LM p R X) {o u : Nat} {r : Int} (ho : o < p) (hu : u < p) (hf : 0 < X o u + r) (Y : Nat → Nat → Int) : ¬ CM p (arcR R u o r) Y := by
  intro hY
  have h1 : CM p R Y := hY.mono (fun i j v _ _ hr => Or.inl hr)
  have h2 := h.2 Y h1 o u ho hu
  have h3 := hY.2.1 u o r hu ho (Or.inr ⟨rfl, rfl, rfl⟩)
  have h4 := hY.2.2 o u o ho hu ho
  have h5 := hY.1 o ho
  omega
theorem LM.add {p : Nat} {R : Nat → Nat → Int → Prop} {X : Nat → Nat → Int} (h : LM p R X) {o u : Nat} {r : Int} (ho : o < p) (hu : u < p) (hf : X o u + r ≤ 0) : LM p (arcR R u o r) (fun i j => max (X i j) (X i u + r + X o j)) := by
  obtain ⟨⟨h1, h2, h3⟩, h4⟩ := h
  refine ⟨⟨fun i hi => ?_, fun i j v hi hj hr => ?_, fun i j k hi hj hk => ?_⟩, fun Y hY i j hi hj => ?_⟩
  · have a := h3 o i u ho hi hu
    have b := h1 i hi
    show max (X i i) (X i u + r + X o i) = 0
    omega
  · show v ≤ max (X i j) (X i u + r + X o j)
    rcases hr with hr | ⟨rfl, rfl, rfl⟩
    · have := h2 i j v hi hj hr
      omega
    · have a := h1 i hi
      have b := h1 j hj
      omega
  · show max (X i j) (X i u + r + X o j) + max (X j k) (X j u + r + X o k) ≤ max (X i k) (X i u + r + X o k)
    have a1 := h3 i j k hi hj hk
    have a2 := h3 o j k ho hj hk
    have a3 := h3 i j u hi hj hu
    have a4 := h3 o j u ho hj hu
    omega
  · have hY1 : CM p R Y := hY.mono (fun i j v _ _ hr => Or.inl hr)
    have a := h4 Y hY1 i j hi hj
    have b := h4 Y hY1 i u hi hu
    have c := h4 Y hY1 o j ho hj
    have d := hY.2.1 u o r hu ho (Or.inr ⟨rfl, rfl, rfl⟩)
    have e := hY.2.2 i u o hi hu ho
    have f := hY.2.2 i o j hi ho hj
    show max (X i j) (X i u + r + X o j) ≤ Y i j
    omega
/-- the free gaps: every START is within 0 .. day; point 0 is tick 0 -/
def frR (day : Int) : Nat → Nat → Int → Prop := fun i j v => (i = 0 ∧ v = 0) ∨ (j = 0 ∧ 0 < i ∧ v = -day)
theorem LM.free (p : Nat) {day : Int} (hd : 0 ≤ day) : LM p (frR day) (fun i j => if i = j ∨ i = 0 then 0 else -day) := by
  refine ⟨⟨fun i hi => ?_, fun i j v hi hj hr => ?_, fun i j k hi hj hk => ?_⟩, fun Y hY i j hi hj => ?_⟩
  · show (if i = i ∨ i = 0 then (0 : Int) else -day) = 0
    rw [if_pos (Or.inl rfl)]
  · show v ≤ if i = j ∨ i = 0 then (0 : Int) else -day
    rcases hr with ⟨h1, h2⟩ | ⟨h1, h2, h3⟩
    · rw [if_pos (Or.inr h1)]; omega
    · rw [if_neg (by omega)]; omega
  · show (if i = j ∨ i = 0 then (0 : Int) else -day) + (if j = k ∨ j = 0 then (0 : Int) else -day) ≤ if i = k ∨ i = 0 then (0 : Int) else -day
    split <;> split <;> split <;> omega
  · show (if i = j ∨ i = 0 then (0 : Int) else -day) ≤ Y i j
    have hp : 0 < p := by omega
    have a : 0 ≤ Y 0 j := hY.2.1 0 j 0 hp hj (Or.inl ⟨rfl, rfl⟩)
    by_cases hij : i = j
    · subst hij
      rw [if_pos (Or.inl rfl), hY.1 i hi]
      exact Int.le_refl 0
    · by_cases h0 : i = 0
      · subst h0
        rw [if_pos (Or.inr rfl)]; exact a
      · rw [if_neg (by omega)]
        have b : -day ≤ Y i 0 := hY.2.1 i 0 (-day) hi hp (Or.inr ⟨rfl, by omega, rfl⟩)
        have c := hY.2.2 i 0 j hi hp hj
        omega
/-- a closed matrix above the free gaps lies within -day .. day -/
theorem CM.within {p : Nat} {day : Int} {R : Nat → Nat → Int → Prop} {X : Nat → Nat → Int} (h : CM p R X) (hR : ∀ i j v, frR day i j v → R i j v) (hd : 0 ≤ day) {i j : Nat} (hi : i < p) (hj : j < p) : -day ≤ X i j ∧ X i j ≤ day := by
  have key : ∀ i j, i < p → j < p → -day ≤ X i j := by
    intro i j hi hj
    have h1 : CM p (frR day) X := h.mono (fun i j v _ _ hr => hR i j v hr)
    have h2 := (LM.free p hd).2 X h1 i j hi hj
    have h3 : (if i = j ∨ i = 0 then (0 : Int) else -day) ≤ X i j := h2
    split at h3 <;> omega
  have a := key i j hi hj
  have b := key j i hj hi
  have c := h.2.2 i j i hi hj hi
  have e := h.1 i hi
  exact ⟨a, by omega⟩
