/-! ===== numbers, reads and writes for the pure part ===== -/
def iI (z : Int) : Int32 := Int32.ofInt z
theorem iI_add (a b : Int) : iI a + iI b = iI (a + b) := (Int32.ofInt_add a b).symm
theorem iI_sub (a b : Int) : iI a - iI b = iI (a - b) := (Int32.ofInt_sub a b).symm
theorem iI_mul (a b : Int) : iI a * iI b = iI (a * b) := (Int32.ofInt_mul a b).symm
theorem iI_neg (a : Int) : -iI a = iI (-a) := (Int32.ofInt_neg a).symm
theorem iI_toInt {z : Int} (h1 : -2147483648 ≤ z) (h2 : z < 2147483648) : (iI z).toInt = z := Int32.toInt_ofInt_of_le h1 h2
theorem iI_lt {a b : Int} (ha : -2147483648 ≤ a ∧ a < 2147483648) (hb : -2147483648 ≤ b ∧ b < 2147483648) : iI a < iI b ↔ a < b := by
  rw [Int32.lt_iff_toInt_lt, iI_toInt ha.1 ha.2, iI_toInt hb.1 hb.2]
theorem iI_le {a b : Int} (ha : -2147483648 ≤ a ∧ a < 2147483648) (hb : -2147483648 ≤ b ∧ b < 2147483648) : iI a ≤ iI b ↔ a ≤ b := by
  rw [Int32.le_iff_toInt_le, iI_toInt ha.1 ha.2, iI_toInt hb.1 hb.2]
theorem iI_eq {a b : Int} (ha : -2147483648 ≤ a ∧ a < 2147483648) (hb : -2147483648 ≤ b ∧ b < 2147483648) : iI a = iI b ↔ a = b := by
  rw [← Int32.toInt_inj, iI_toInt ha.1 ha.2, iI_toInt hb.1 hb.2]
theorem iI_of (x : Int32) : x = iI x.toInt := (Int32.ofInt_toInt x).symm
theorem iI_lit (n : Nat) : (@OfNat.ofNat Int32 n Int32.instOfNat) = iI (n : Int) := by
  show Int32.ofNat n = Int32.ofInt (n : Int)
  rw [Int32.ofInt_eq_ofNat]
theorem iI_0 : (0 : Int32) = iI 0 := rfl
theorem iI_1 : (1 : Int32) = iI 1 := rfl
theorem iI_nat (n : Nat) : Int32.ofNat n = iI (n : Int) := by
  show Int32.ofNat n = Int32.ofInt (n : Int)
  rw [Int32.ofInt_eq_ofNat]
theorem iI_clamp {z : Int} (h1 : 0 ≤ z) (h2 : z < 2147483648) : (iI z).toNatClampNeg = z.toNat := by
  show (iI z).toInt.toNat = z.toNat
  rw [iI_toInt (by omega) h2]
/-- an int array's contents -/
def iz (d : Nat → Int) : Nat → Value := fun k => .int (iI (d k))
def updZ (d : Nat → Int) (k : Nat) (z : Int) : Nat → Int := fun j => if j = k then z else d j
theorem updV_iz (d : Nat → Int) (k : Nat) (z : Int) : updV (iz d) k (.int (iI z)) = iz (updZ d k z) := by
  funext j
  simp only [updV, iz, updZ]
  split <;> rfl
/-- the world with an int array's contents replaced, with an object's place replaced -/
def setA (σ : Sg) (a : Nat) (d : Nat → Int) : Sg := (σ.1, σ.2.1, upA σ.2.2 a (iz d))
def setF (σ : Sg) (a k : Nat) (v : Value) : Sg := (σ.1, σ.2.1, up2 σ.2.2 a k v)
theorem setA_1 (σ : Sg) (a : Nat) (d : Nat → Int) : (setA σ a d).1 = σ.1 := rfl
theorem setA_2 (σ : Sg) (a : Nat) (d : Nat → Int) : (setA σ a d).2.1 = σ.2.1 := rfl
theorem setA_self (σ : Sg) (a : Nat) (d : Nat → Int) : (setA σ a d).2.2 a = iz d := by simp [setA, upA]
theorem setA_ne (σ : Sg) {a b : Nat} (d : Nat → Int) (h : b ≠ a) : (setA σ a d).2.2 b = σ.2.2 b := by simp [setA, upA, h]
theorem setF_1 (σ : Sg) (a k : Nat) (v : Value) : (setF σ a k v).1 = σ.1 := rfl
theorem setF_2 (σ : Sg) (a k : Nat) (v : Value) : (setF σ a k v).2.1 = σ.2.1 := rfl
theorem setF_self (σ : Sg) (a k : Nat) (v : Value) : (setF σ a k v).2.2 a k = v := by simp [setF, up2, updV]
theorem setF_k (σ : Sg) (a : Nat) {k j : Nat} (v : Value) (h : j ≠ k) : (setF σ a k v).2.2 a j = σ.2.2 a j := by simp [setF, up2, updV, h]
theorem setF_ne (σ : Sg) {a b : Nat} (k : Nat) (v : Value) (h : b ≠ a) : (setF σ a k v).2.2 b = σ.2.2 b := by simp [setF, up2, h]
theorem setF_at (σ : Sg) (a k : Nat) (v : Value) (b j : Nat) : (setF σ a k v).2.2 b j = if b = a ∧ j = k then v else σ.2.2 b j := by
  by_cases h : b = a
  · subst h
    by_cases h2 : j = k <;> simp [setF, up2, updV, h2]
  · simp [setF, up2, h]
theorem setA_setA (σ : Sg) (a : Nat) (d e : Nat → Int) : setA (setA σ a d) a e = setA σ a e := by
  have h : upA (upA σ.2.2 a (iz d)) a (iz e) = upA σ.2.2 a (iz e) := by
    funext b
    simp only [upA]
    split <;> rfl
  simp only [setA, h]
theorem setA_id {σ : Sg} {a : Nat} {d : Nat → Int} (h : σ.2.2 a = iz d) : setA σ a d = σ := by
  have h2 : upA σ.2.2 a (iz d) = σ.2.2 := by
    funext b
    simp only [upA]
    split
    · rename_i hb; rw [hb, h]
    · rfl
  simp only [setA, h2]
theorem isO_ok {σ : Sg} {t a n : Nat} (h : σ.2.1 a = some (t, n)) : isO t σ a = some () := by simp [isO, h]
theorem gV_ok {σ : Sg} {t a n k : Nat} (h : σ.2.1 a = some (t, n)) (hk : k < n) : gV t σ a k = some (σ.2.2 a k) := by simp [gV, h, hk]
theorem gI_ok {σ : Sg} {t a n k : Nat} {x : Int32} (h : σ.2.1 a = some (t, n)) (hk : k < n) (hv : σ.2.2 a k = .int x) : toI (gV t σ a k) = some x := by rw [gV_ok h hk, hv]; rfl
theorem gR_ok {σ : Sg} {t a n k q : Nat} (h : σ.2.1 a = some (t, n)) (hk : k < n) (hv : σ.2.2 a k = .ref q) : toR (gV t σ a k) = some q := by rw [gV_ok h hk, hv]; rfl
theorem pV_ok {σ : Sg} {t a n k : Nat} {v : Value} (h : σ.2.1 a = some (t, n)) (hk : k < n) : pV t σ a k v = some (setF σ a k v) := by simp [pV, h, hk, setF]
theorem in_ok {z : Int} {n : Nat} (h0 : 0 ≤ z) (h1 : z < n) (hn : n < 2147483648) : ¬ (iI z < 0 ∨ n ≤ (iI z).toNatClampNeg) := by
  rw [iI_clamp h0 (by omega)]
  rintro (h | h)
  · rw [iI_0, iI_lt (by omega) (by omega)] at h
    omega
  · omega
theorem aV_ok {σ : Sg} {t a n : Nat} {z : Int} (h : σ.2.1 a = some (t, n)) (h0 : 0 ≤ z) (h1 : z < n) (hn : n < 2147483648) : aV t σ a (iI z) = some (σ.2.2 a z.toNat) := by
  simp only [aV, h]
  rw [if_pos ⟨trivial, in_ok h0 h1 hn⟩, iI_clamp h0 (by omega)]
theorem aI_ok {σ : Sg} {a n : Nat} {z : Int} {d : Nat → Int} (h : σ.2.1 a = some (11, n)) (hm : σ.2.2 a = iz d) (h0 : 0 ≤ z) (h1 : z < n) (hn : n < 2147483648) : toI (aV 11 σ a (iI z)) = some (iI (d z.toNat)) := by
  rw [aV_ok h h0 h1 hn, hm]; rfl
theorem sV_ok {σ : Sg} {a n : Nat} {z v : Int} {d : Nat → Int} (h : σ.2.1 a = some (11, n)) (hm : σ.2.2 a = iz d) (h0 : 0 ≤ z) (h1 : z < n) (hn : n < 2147483648) : sV 11 σ a (iI z) (.int (iI v)) = some (setA σ a (updZ d z.toNat v)) := by
  simp only [sV, h]
  rw [if_pos ⟨trivial, in_ok h0 h1 hn⟩, iI_clamp h0 (by omega)]
  have h2 : up2 σ.2.2 a z.toNat (.int (iI v)) = upA σ.2.2 a (iz (updZ d z.toNat v)) := by
    funext b
    simp only [up2, upA]
    split
    · rw [hm, updV_iz]
    · rfl
  rw [h2]; rfl
theorem lenA_ok {σ : Sg} {t a n : Nat} (h : σ.2.1 a = some (t, n)) : lenA t σ a = some (iI n) := by
  simp only [lenA, h, if_pos]
  rw [iI_nat]
theorem cpA_ok {σ : Sg} {a0 a n : Nat} {d e : Nat → Int} (h0 : σ.2.1 a0 = some (11, n)) (h1 : σ.2.1 a = some (11, n)) (hm : σ.2.2 a0 = iz d) (hm1 : σ.2.2 a = iz e) (hn : n < 2147483648) : cpA σ a0 (iI 0) a (iI 0) (iI n) = some (setA σ a (fun k => if k < n then d k else e k)) := by
  simp only [cpA, h0, h1]
  have z0 : (iI 0).toNatClampNeg = 0 := by rw [iI_clamp (by omega) (by omega)]; rfl
  have zn : (iI (n : Int)).toNatClampNeg = n := by rw [iI_clamp (by omega) (by omega)]; omega
  have c0 : ¬ iI 0 < 0 := by rw [iI_0, iI_lt (by omega) (by omega)]; omega
  have cn : ¬ iI (n : Int) < 0 := by rw [iI_0, iI_lt (by omega) (by omega)]; omega
  have hall : allI (σ.2.2 a0) (iI 0).toNatClampNeg (iI (n : Int)).toNatClampNeg = true := by
    unfold allI
    rw [List.all_eq_true]
    intro j _
    rw [hm]; rfl
  rw [if_pos ⟨trivial, trivial, c0, c0, cn, by rw [z0, zn]; omega, by rw [z0, zn]; omega, hall⟩, z0, zn]
  have h2 : va_cpy (σ.2.2 a0) (σ.2.2 a) 0 0 n = iz (fun k => if k < n then d k else e k) := by
    funext k
    simp only [va_cpy, hm, hm1, iz]
    by_cases hk : k < n
    · rw [if_pos ⟨by omega, by omega⟩, if_pos hk]; simp
    · rw [if_neg (by omega), if_neg hk]
  rw [h2]; rfl
/-- a loop that goes through the states P 0 .. P N and leaves there -/
theorem loop_run {C E : Type} {body : C → Option (C ⊕ E)} (P : Nat → C) {e : E} : ∀ (N : Nat) (i : Nat), (∀ j, i ≤ j → j < i + N → body (P j) = some (.inl (P (j + 1)))) → body (P (i + N)) = some (.inr e) → ∀ f, N < f → loopM body f (P i) = some e := by
  intro N
  induction N with
  | zero =>
    intro i _ h2 f hf
    obtain ⟨f, rfl⟩ : ∃ g, f = g + 1 := ⟨f - 1, by omega⟩
    have h2 : body (P i) = some (.inr e) := h2
    simp only [loopM, h2]
  | succ N ih =>
    intro i h1 h2 f hf
    obtain ⟨f, rfl⟩ : ∃ g, f = g + 1 := ⟨f - 1, by omega⟩
    simp only [loopM, h1 i (Nat.le_refl i) (by omega)]
    exact ih (i + 1) (fun j hj hj2 => h1 j (by omega) (by omega)) (by rw [show i + 1 + N = i + (N + 1) by omega]; exact h2) f (by omega)
