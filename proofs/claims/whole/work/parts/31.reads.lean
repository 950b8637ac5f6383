/-! ===== the class: what reads of walks and cells answer ===== -/
def RI (z : Int) : Prop := -2147483648 ≤ z ∧ z < 2147483648
theorem iI_RI (x : Int32) : RI x.toInt := ⟨Int32.le_toInt x, Int32.toInt_lt x⟩
theorem iI_m1 : (-1 : Int32) = iI (-1) := rfl
theorem c_lt {a b : Int} (ha : RI a) (hb : RI b) : iI a < iI b ↔ a < b := iI_lt ha hb
theorem c_le {a b : Int} (ha : RI a) (hb : RI b) : iI a ≤ iI b ↔ a ≤ b := iI_le ha hb
theorem c_eq {a b : Int} (ha : RI a) (hb : RI b) : iI a = iI b ↔ a = b := iI_eq ha hb
theorem c_lt0 {a : Int} (ha : RI a) : iI a < 0 ↔ a < 0 := by rw [iI_0]; exact iI_lt ha (by omega)
theorem c_eq0 {a : Int} (ha : RI a) : iI a = 0 ↔ a = 0 := by rw [iI_0]; exact iI_eq ha (by omega)
theorem c_eqm {a : Int} (ha : RI a) : iI a = (-1 : Int32) ↔ a = -1 := by rw [iI_m1]; exact iI_eq ha (by omega)
theorem c_ltL {a : Int} (k : Nat) (hk : k < 2147483648) (ha : RI a) : iI a < (@OfNat.ofNat Int32 k Int32.instOfNat) ↔ a < k := by rw [iI_lit]; exact iI_lt ha (by omega)
theorem c_leL {a : Int} (k : Nat) (hk : k < 2147483648) (ha : RI a) : iI a ≤ (@OfNat.ofNat Int32 k Int32.instOfNat) ↔ a ≤ k := by rw [iI_lit]; exact iI_le ha (by omega)
theorem c_Llt {a : Int} (k : Nat) (hk : k < 2147483648) (ha : RI a) : (@OfNat.ofNat Int32 k Int32.instOfNat) < iI a ↔ (k : Int) < a := by rw [iI_lit]; exact iI_lt (by omega) ha
theorem c_Lle {a : Int} (k : Nat) (hk : k < 2147483648) (ha : RI a) : (@OfNat.ofNat Int32 k Int32.instOfNat) ≤ iI a ↔ (k : Int) ≤ a := by rw [iI_lit]; exact iI_le (by omega) ha
theorem c_eqL {a : Int} (k : Nat) (hk : k < 2147483648) (ha : RI a) : iI a = (@OfNat.ofNat Int32 k Int32.instOfNat) ↔ a = k := by rw [iI_lit]; exact iI_eq ha (by omega)
theorem RI.sm {a : Int} (h1 : -2000000000 ≤ a) (h2 : a ≤ 2000000000) : RI a := ⟨by omega, by omega⟩
/-- the cell at a moment, or -1 -/
def cOf (w : Wk) (i : Int) : Int := if 0 ≤ i ∧ i ≤ wlast w then (wcell w i.toNat : Int) else -1
def lIn (w : Wk) (c : Int) : Int := if 0 ≤ c ∧ c < 256 then lat (wcell w) c.toNat (wlast w) else -1
def cAt (A : AS) (x y : Int) : Int := if 0 ≤ x ∧ x < wide A ∧ 0 ≤ y ∧ y < deep A then 16 * y + x else -1
abbrev isW (A : AS) (z : Int) : Prop := 0 ≤ z ∧ z < wn A
theorem w_cellOf {σ : Sg} {q n : Nat} {w : Wk} {i : Int} (h : WalkAt σ q w) (hl : wlast w ≤ 60) (hi : RI i) : mX8_cellOf n σ q (iI i) = some (iI (cOf w i), σ) := by
  obtain ⟨⟨s0, s1, s2, s3⟩, ⟨f0, f1, f2, f3, f4, f5, f6, f7, f8⟩, ⟨e, m1, c1⟩, -, -⟩ := h
  unfold mX8_cellOf cOf
  unfold RI at hi
  simp only [isO_ok s0, Option.bind_some, gI_ok s0 (show 6 < 9 by omega) f6, gR_ok s0 (show 2 < 9 by omega) f2, iI_0, iI_m1]
  by_cases c0 : i < 0
  · rw [if_pos (by rw [iI_lt (by omega) (by omega)]; exact c0), if_neg (by omega)]
  · rw [if_neg (by rw [iI_lt (by omega) (by omega)]; exact c0)]
    by_cases c2 : (wlast w : Int) < i
    · rw [if_pos (by rw [iI_lt (by omega) (by omega)]; exact c2), if_neg (by omega)]
    · rw [if_neg (by rw [iI_lt (by omega) (by omega)]; exact c2), if_pos (by omega), aI_ok s1 m1 (by omega) (by omega) (by omega), c1 _ (by omega)]
      rfl
theorem w_latestIn {σ : Sg} {q n : Nat} {w : Wk} {c : Int} (h : WalkAt σ q w) (hc : RI c) : mX8_latestIn n σ q (iI c) = some (iI (lIn w c), σ) := by
  obtain ⟨⟨s0, s1, s2, s3⟩, ⟨f0, f1, f2, f3, f4, f5, f6, f7, f8⟩, -, ⟨e, m1, c1⟩, -⟩ := h
  unfold mX8_latestIn lIn
  unfold RI at hc
  simp only [isO_ok s0, Option.bind_some, gR_ok s0 (show 3 < 9 by omega) f3, iI_lit, iI_m1]
  by_cases c0 : c < 0
  · rw [if_pos (by rw [iI_lt (by omega) (by omega)]; exact c0), if_neg (by omega)]; rfl
  · rw [if_neg (by rw [iI_lt (by omega) (by omega)]; exact c0)]
    by_cases c2 : 256 ≤ c
    · rw [if_pos (by rw [iI_le (by omega) (by omega)]; exact c2), if_neg (by omega)]; rfl
    · rw [if_neg (by rw [iI_le (by omega) (by omega)]; exact c2), if_pos (by omega), aI_ok s2 m1 (by omega) (by omega) (by omega), c1 _ (by omega)]
      rfl
theorem w_tickOf {σ : Sg} {q n : Nat} {w : Wk} {i : Int} (h : WalkAt σ q w) : mX8_tickOf n σ q (iI i) = some (iI (wtold w + wpace w * i), σ) := by
  obtain ⟨⟨s0, s1, s2, s3⟩, ⟨f0, f1, f2, f3, f4, f5, f6, f7, f8⟩, -⟩ := h
  unfold mX8_tickOf
  simp only [isO_ok s0, Option.bind_some, gI_ok s0 (show 8 < 9 by omega) f8, gI_ok s0 (show 0 < 9 by omega) f0, iI_mul, iI_add]
theorem w_ticksToEnd {σ : Sg} {q n : Nat} {w : Wk} (h : WalkAt σ q w) : mX8_ticksToEnd n σ q = some (iI (wpace w * wlast w), σ) := by
  obtain ⟨⟨s0, s1, s2, s3⟩, ⟨f0, f1, f2, f3, f4, f5, f6, f7, f8⟩, -⟩ := h
  unfold mX8_ticksToEnd
  simp only [isO_ok s0, Option.bind_some, gI_ok s0 (show 6 < 9 by omega) f6, gI_ok s0 (show 0 < 9 by omega) f0, iI_mul]
section X31
variable {B n : Nat} {wa : Nat → Nat} {σ : Sg} {A : AS}
theorem x_walkOf (h : RC B wa σ A) (hA : Wf A) {z : Int} (hz : RI z) : mX9_walkOf n σ B (iI z) = some (if 0 ≤ z ∧ z < wn A then some (wa z.toNat) else none, σ) := by
  have hw := hA.2.2.1.1
  unfold RI at hz
  unfold mX9_walkOf
  simp only [h.o, Option.bind_some, h.qwn, h.r5, iI_0]
  by_cases c0 : z < 0
  · rw [if_pos (by rw [iI_lt (by omega) (by omega)]; exact c0), if_neg (by omega)]
  · rw [if_neg (by rw [iI_lt (by omega) (by omega)]; exact c0)]
    by_cases c1 : (wn A : Int) ≤ z
    · rw [if_pos (by rw [iI_le (by omega) (by omega)]; exact c1), if_neg (by omega)]
    · rw [if_neg (by rw [iI_le (by omega) (by omega)]; exact c1), if_pos (by omega)]
      have e : toQ (aV 13 σ (B + 3) (iI z)) = some (some (wa z.toNat)) := by
        have := h.walk hA (w := z.toNat) (by omega)
        rwa [show ((z.toNat : Nat) : Int) = z by omega] at this
      simp only [e, Option.bind_some]
theorem x_cellAt (h : RC B wa σ A) (hA : Wf A) {x y : Int} (hx : RI x) (hy : RI y) : mX9_cellAt n σ B (iI x) (iI y) = some (iI (cAt A x y), σ) := by
  obtain ⟨⟨w1, w2, d1, d2, -⟩, -⟩ := hA
  unfold RI at hx hy
  unfold mX9_cellAt cAt
  simp only [h.o, Option.bind_some, h.qwide, h.qdeep, iI_0]
  have e0 : ∀ t, mX9_cellAt_28 n σ (iI x) (iI y) = t → mX9_cellAt_28 n σ (iI x) (iI y) = t := fun _ h => h
  have e1 : mX9_cellAt_28 n σ (iI x) (iI y) = some (iI (-1), σ) := by
    simp only [mX9_cellAt_28, mX9_cellAt_29, if_pos]; rfl
  have e2 : mX9_cellAt_29 n σ (1 : Int32) (iI x) (iI y) = some (iI (16 * y + x), σ) := by
    simp only [mX9_cellAt_29, iI_lit, iI_mul, iI_add]
    rw [if_neg (by decide)]; rfl
  by_cases c0 : x < 0
  · rw [if_pos (by rw [iI_lt (by omega) (by omega)]; exact c0), if_neg (by omega), e1]
  · rw [if_neg (by rw [iI_lt (by omega) (by omega)]; exact c0)]
    by_cases c1 : (wide A : Int) ≤ x
    · rw [if_pos (by rw [iI_le (by omega) (by omega)]; exact c1), if_neg (by omega), e1]
    · rw [if_neg (by rw [iI_le (by omega) (by omega)]; exact c1)]
      by_cases c2 : y < 0
      · rw [if_pos (by rw [iI_lt (by omega) (by omega)]; exact c2), if_neg (by omega), e1]
      · rw [if_neg (by rw [iI_lt (by omega) (by omega)]; exact c2)]
        by_cases c3 : (deep A : Int) ≤ y
        · rw [if_pos (by rw [iI_le (by omega) (by omega)]; exact c3), if_neg (by omega), e1]
        · rw [if_neg (by rw [iI_le (by omega) (by omega)]; exact c3), if_pos (by omega)]
          exact e2
theorem cAt_RI (A : AS) (hA : Wf A) (x y : Int) : -1 ≤ cAt A x y ∧ cAt A x y < 256 := by
  obtain ⟨⟨w1, w2, d1, d2, -⟩, -⟩ := hA
  unfold cAt
  split <;> omega
theorem lIn_R (w : Wk) (c : Int) : -1 ≤ lIn w c ∧ lIn w c ≤ wlast w := by
  unfold lIn
  split
  · exact lat_range _ _ _
  · omega
/-- whether a walk has a print in a cell -/
abbrev pIn (A : AS) (z c : Int) : Prop := isW A z ∧ lIn (wk A z.toNat) c ≠ -1
theorem x_printsIn (h : RC B wa σ A) (hA : Wf A) {z c : Int} (hz : RI z) (hc : RI c) : mX9_printsIn n σ B (iI z) (iI c) = some (if pIn A z c then 1 else 0, σ) := by
  unfold mX9_printsIn
  simp only [h.o, Option.bind_some, x_walkOf h hA hz]
  by_cases c0 : 0 ≤ z ∧ z < wn A
  · have hW := h.walkAt (w := z.toNat) (by omega)
    have hL := lIn_R (wk A z.toNat) c
    have hl := (hA.2.2.1.2 z.toNat (by omega)).2.2.2.1
    simp only [if_pos c0, w_latestIn hW hc, Option.bind_some]
    have hR : RI (lIn (wk A z.toNat) c) := RI.sm (by omega) (by omega)
    by_cases c1 : lIn (wk A z.toNat) c = -1
    · rw [if_neg (show ¬ pIn A z c from fun q => q.2 c1), if_pos ((c_eqm hR).mpr c1)]
    · rw [if_pos (show pIn A z c from ⟨c0, c1⟩), if_neg (fun q => c1 ((c_eqm hR).mp q))]
  · simp only [if_neg c0]
    rw [if_neg (show ¬ pIn A z c from fun q => c0 q.1)]
/-- two walks with prints in one cell -/
abbrev crs (A : AS) (a b c : Int) : Prop := a ≠ b ∧ pIn A a c ∧ pIn A b c
theorem x_isCrossing (h : RC B wa σ A) (hA : Wf A) {a b c : Int} (ha : RI a) (hb : RI b) (hc : RI c) : mX9_isCrossing n σ B (iI a) (iI b) (iI c) = some (if crs A a b c then 1 else 0, σ) := by
  unfold mX9_isCrossing
  simp only [h.o, Option.bind_some, x_printsIn h hA ha hc, x_printsIn h hA hb hc]
  by_cases c0 : a = b
  · rw [if_neg (show ¬ crs A a b c from fun q => q.1 c0), if_pos (by rw [c0])]
  · rw [if_neg (fun q => c0 ((c_eq ha hb).mp q))]
    by_cases c1 : pIn A a c
    · rw [if_pos c1, if_neg (by decide)]
      by_cases c2 : pIn A b c
      · rw [if_pos c2, if_neg (by decide), if_pos (show crs A a b c from ⟨c0, c1, c2⟩)]
      · rw [if_neg c2, if_pos (by decide), if_neg (show ¬ crs A a b c from fun q => c2 q.2.2)]
    · rw [if_neg c1, if_pos (by decide), if_neg (show ¬ crs A a b c from fun q => c1 q.2.1)]
/-- when the latest print in a cell was made, from the start on -/
def mad (w : Wk) (c : Int) : Int := wpace w * lIn w c
theorem mad_R (A : AS) {w : Wk} (hw : WWf A w) (c : Int) : -9 ≤ mad w c ∧ mad w c ≤ 540 := by
  have h1 := lIn_R w c
  have h2 := hw.1
  have h3 := hw.2.1
  have h4 := hw.2.2.2.1
  unfold mad
  rcases (show wpace w = 1 ∨ wpace w = 2 ∨ wpace w = 3 ∨ wpace w = 4 ∨ wpace w = 5 ∨ wpace w = 6 ∨ wpace w = 7 ∨ wpace w = 8 ∨ wpace w = 9 by omega) with e | e | e | e | e | e | e | e | e <;> rw [e] <;> omega
theorem x_lead (h : RC B wa σ A) (hA : Wf A) {a b c : Int} (ha : isW A a) (hb : isW A b) (hc : RI c) : mX9_leadToLieAbove n σ B (iI a) (iI b) (iI c) = some (iI (mad (wk A b.toNat) c - mad (wk A a.toNat) c + 1), σ) := by
  have hw := hA.2.2.1.1
  have ra : RI a := RI.sm (by have := ha.1; omega) (by have := ha.2; omega)
  have rb : RI b := RI.sm (by have := hb.1; omega) (by have := hb.2; omega)
  have hWa := h.walkAt (w := a.toNat) (by have := ha.1; have := ha.2; omega)
  have hWb := h.walkAt (w := b.toNat) (by have := hb.1; have := hb.2; omega)
  unfold mX9_leadToLieAbove
  simp only [h.o, Option.bind_some, x_walkOf h hA ra, x_walkOf h hA rb, if_pos (show 0 ≤ a ∧ a < wn A from ha), if_pos (show 0 ≤ b ∧ b < wn A from hb), gI_ok hWb.1.1 (show 0 < 9 by omega) hWb.2.1.1, gI_ok hWa.1.1 (show 0 < 9 by omega) hWa.2.1.1, w_latestIn hWb hc, w_latestIn hWa hc, iI_mul, iI_sub, iI_1, iI_add]
  rfl
theorem x_where (h : RC B wa σ A) (hA : Wf A) {z i : Int} (hz : RI z) (hi : RI i) : mX9_where n σ B (iI z) (iI i) = some (iI (if 0 ≤ z ∧ z < wn A then cOf (wk A z.toNat) i else -1), σ) := by
  unfold mX9_where
  simp only [h.o, Option.bind_some, x_walkOf h hA hz]
  by_cases c0 : 0 ≤ z ∧ z < wn A
  · have hW := h.walkAt (w := z.toNat) (by omega)
    have hl := (hA.2.2.1.2 z.toNat (by omega)).2.2.2.1
    simp only [if_pos c0, w_cellOf hW hl hi, Option.bind_some]
  · simp only [if_neg c0]; rfl
theorem x_latest (h : RC B wa σ A) (hA : Wf A) {z x y : Int} (hz : RI z) (hx : RI x) (hy : RI y) : mX9_latest n σ B (iI z) (iI x) (iI y) = some (iI (if 0 ≤ z ∧ z < wn A then lIn (wk A z.toNat) (cAt A x y) else -1), σ) := by
  have hc := cAt_RI A hA x y
  unfold mX9_latest
  simp only [h.o, Option.bind_some, x_walkOf h hA hz]
  by_cases c0 : 0 ≤ z ∧ z < wn A
  · have hW := h.walkAt (w := z.toNat) (by omega)
    simp only [if_pos c0, x_cellAt h hA hx hy, w_latestIn hW (show RI (cAt A x y) from RI.sm (by omega) (by omega)), Option.bind_some]
  · simp only [if_neg c0]; rfl
end X31
