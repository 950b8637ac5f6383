/-! ===== the reference's world: its numbers f, its arrays e (printed by wip/whole/gen50.py) ===== -/
def mtL : List (Nat × Nat) := [(10, 41), (11, 160), (11, 61), (11, 61), (11, 488), (11, 8), (11, 8), (11, 8), (11, 8), (11, 20), (11, 20), (11, 20), (11, 20), (11, 20), (11, 20), (11, 81), (11, 8), (11, 8), (11, 8)]
def mpt (k : Nat) : Nat := match k with
  | 4 => 1
  | 9 => 2
  | 10 => 3
  | 15 => 4
  | 16 => 5
  | 17 => 6
  | 18 => 7
  | 19 => 8
  | 21 => 9
  | 22 => 10
  | 23 => 11
  | 24 => 12
  | 25 => 13
  | 26 => 14
  | 28 => 15
  | 33 => 16
  | 35 => 17
  | 37 => 18
  | _ => 0
/-- an int array's contents, by ints -/
def ij (d : Int → Int) : Nat → Value := fun k => .int (iI (d k))
def upj (d : Int → Int) (z v : Int) : Int → Int := fun j => if j = z then v else d j
def ups (e : Nat → Int → Int) (r : Nat) (z v : Int) : Nat → Int → Int := fun q => if q = r then upj (e r) z v else e q
def MW (M : Nat) (σ : Sg) (f : Nat → Int) (e : Nat → Int → Int) : Sg := (σ.1, σ.2.1, fun a => if a = M then (fun k => if mpt k = 0 then .int (iI (f k)) else .ref (M + mpt k)) else if M < a ∧ a < M + 19 then ij (e (a - M)) else σ.2.2 a)
def Msh (M : Nat) (σ : Sg) : Prop := ∀ k, k < 19 → σ.2.1 (M + k) = mtL[k]?
theorem iL (n : Nat) : (@OfNat.ofNat Int32 n Int32.instOfNat) = iI (@OfNat.ofNat Int n _root_.instOfNat) := iI_lit n
theorem MW_sh (M : Nat) (σ : Sg) (f : Nat → Int) (e : Nat → Int → Int) : (MW M σ f e).2.1 = σ.2.1 := rfl
theorem MW_M (M : Nat) (σ : Sg) (f : Nat → Int) (e : Nat → Int → Int) (k : Nat) : (MW M σ f e).2.2 M k = if mpt k = 0 then .int (iI (f k)) else .ref (M + mpt k) := by
  simp [MW]
theorem MW_r (M : Nat) (σ : Sg) (f : Nat → Int) (e : Nat → Int → Int) {r : Nat} (h0 : 0 < r) (h1 : r < 19) : (MW M σ f e).2.2 (M + r) = ij (e r) := by
  have h2 : M + r ≠ M := by omega
  have h3 : M < M + r ∧ M + r < M + 19 := by omega
  simp only [MW, if_neg h2, if_pos h3, show M + r - M = r by omega]
theorem MW_far (M : Nat) (σ : Sg) (f : Nat → Int) (e : Nat → Int → Int) {a : Nat} (h : a < M ∨ M + 19 ≤ a) : (MW M σ f e).2.2 a = σ.2.2 a := by
  have h2 : a ≠ M := by omega
  have h3 : ¬ (M < a ∧ a < M + 19) := by omega
  simp only [MW, if_neg h2, if_neg h3]
section X50
variable {M : Nat} {σ : Sg}
theorem mw_I (hS : Msh M σ) (f : Nat → Int) (e : Nat → Int → Int) (k : Nat) (hk : k < 41) (hp : mpt k = 0) : toI (gV 10 (MW M σ f e) M k) = some (iI (f k)) := by
  have h0 : (MW M σ f e).2.1 M = some (10, 41) := hS 0 (by omega)
  exact gI_ok h0 hk (by rw [MW_M, if_pos hp])
theorem mw_R (hS : Msh M σ) (f : Nat → Int) (e : Nat → Int → Int) (k : Nat) (hk : k < 41) (hp : mpt k ≠ 0) : toR (gV 10 (MW M σ f e) M k) = some (M + mpt k) := by
  have h0 : (MW M σ f e).2.1 M = some (10, 41) := hS 0 (by omega)
  exact gR_ok h0 hk (by rw [MW_M, if_neg hp])
theorem mw_P (hS : Msh M σ) (f : Nat → Int) (e : Nat → Int → Int) (k : Nat) (v : Int) (hk : k < 41) (hp : mpt k = 0) : pV 10 (MW M σ f e) M k (.int (iI v)) = some (MW M σ (updZ f k v) e) := by
  have h0 : (MW M σ f e).2.1 M = some (10, 41) := hS 0 (by omega)
  rw [pV_ok h0 hk]
  have h2 : up2 (MW M σ f e).2.2 M k (.int (iI v)) = (MW M σ (updZ f k v) e).2.2 := by
    funext a j
    by_cases ha : a = M
    · subst ha
      simp only [up2, if_pos, updV, MW_M, updZ]
      by_cases hj : j = k
      · subst hj; simp [hp]
      · simp [hj]
    · simp only [up2, if_neg ha]
      simp only [MW, if_neg ha]
  simp only [setF, h2]
  rfl
theorem mw_A (hS : Msh M σ) (f : Nat → Int) (e : Nat → Int → Int) (r l : Nat) (z : Int) (h0 : 0 < r) (h1 : r < 19) (hl : mtL[r]? = some (11, l)) (hm : l < 1000) (z0 : 0 ≤ z) (z1 : z < l) : toI (aV 11 (MW M σ f e) (M + r) (iI z)) = some (iI (e r z)) := by
  have hs : (MW M σ f e).2.1 (M + r) = some (11, l) := (hS r h1).trans hl
  rw [aV_ok hs z0 z1 (by omega), MW_r M σ f e h0 h1]
  show some (iI (e r (z.toNat : Int))) = _
  rw [show (z.toNat : Int) = z by omega]
theorem mw_S (hS : Msh M σ) (f : Nat → Int) (e : Nat → Int → Int) (r l : Nat) (z v : Int) (h0 : 0 < r) (h1 : r < 19) (hl : mtL[r]? = some (11, l)) (hm : l < 1000) (z0 : 0 ≤ z) (z1 : z < l) : sV 11 (MW M σ f e) (M + r) (iI z) (.int (iI v)) = some (MW M σ f (ups e r z v)) := by
  have hs : (MW M σ f e).2.1 (M + r) = some (11, l) := (hS r h1).trans hl
  simp only [sV, hs]
  rw [if_pos ⟨trivial, in_ok z0 z1 (by omega)⟩, iI_clamp z0 (by omega)]
  have h2 : up2 (MW M σ f e).2.2 (M + r) z.toNat (.int (iI v)) = (MW M σ f (ups e r z v)).2.2 := by
    funext a j
    by_cases ha : a = M + r
    · subst ha
      rw [MW_r M σ f (ups e r z v) h0 h1]
      simp only [up2, if_pos, updV, MW_r M σ f e h0 h1, ij, ups, upj]
      by_cases hj : j = z.toNat
      · rw [if_pos hj, if_pos (by omega)]
      · rw [if_neg hj, if_neg (by omega)]
    · simp only [up2, if_neg ha]
      by_cases hM : a = M
      · subst hM; rw [MW_M, MW_M]
      · by_cases hr : M < a ∧ a < M + 19
        · simp only [MW, if_neg hM, if_pos hr, ups, if_neg (show ¬ (a - M = r) by omega)]
        · simp only [MW, if_neg hM, if_neg hr]
  rw [h2]
  rfl
theorem mw_o (hS : Msh M σ) (f : Nat → Int) (e : Nat → Int → Int) : isO 10 (MW M σ f e) M = some () := isO_ok (n := 41) (hS 0 (by omega))
/-- all reads and writes of the reference, as rules -/
abbrev MRr (M : Nat) (σ : Sg) : Prop :=
  (∀ f e, isO 10 (MW M σ f e) M = some ()) ∧
  (∀ f e, toI (gV 10 (MW M σ f e) M 0) = some (iI (f 0))) ∧
  (∀ f e v, pV 10 (MW M σ f e) M 0 (.int (iI v)) = some (MW M σ (updZ f 0 v) e)) ∧
  (∀ f e, toI (gV 10 (MW M σ f e) M 1) = some (iI (f 1))) ∧
  (∀ f e v, pV 10 (MW M σ f e) M 1 (.int (iI v)) = some (MW M σ (updZ f 1 v) e)) ∧
  (∀ f e, toI (gV 10 (MW M σ f e) M 2) = some (iI (f 2))) ∧
  (∀ f e v, pV 10 (MW M σ f e) M 2 (.int (iI v)) = some (MW M σ (updZ f 2 v) e)) ∧
  (∀ f e, toI (gV 10 (MW M σ f e) M 3) = some (iI (f 3))) ∧
  (∀ f e v, pV 10 (MW M σ f e) M 3 (.int (iI v)) = some (MW M σ (updZ f 3 v) e)) ∧
  (∀ f e, toR (gV 10 (MW M σ f e) M 4) = some (M + 1)) ∧
  (∀ f e, toI (gV 10 (MW M σ f e) M 5) = some (iI (f 5))) ∧
  (∀ f e v, pV 10 (MW M σ f e) M 5 (.int (iI v)) = some (MW M σ (updZ f 5 v) e)) ∧
  (∀ f e, toI (gV 10 (MW M σ f e) M 6) = some (iI (f 6))) ∧
  (∀ f e v, pV 10 (MW M σ f e) M 6 (.int (iI v)) = some (MW M σ (updZ f 6 v) e)) ∧
  (∀ f e, toI (gV 10 (MW M σ f e) M 7) = some (iI (f 7))) ∧
  (∀ f e v, pV 10 (MW M σ f e) M 7 (.int (iI v)) = some (MW M σ (updZ f 7 v) e)) ∧
  (∀ f e, toI (gV 10 (MW M σ f e) M 8) = some (iI (f 8))) ∧
  (∀ f e v, pV 10 (MW M σ f e) M 8 (.int (iI v)) = some (MW M σ (updZ f 8 v) e)) ∧
  (∀ f e, toR (gV 10 (MW M σ f e) M 9) = some (M + 2)) ∧
  (∀ f e, toR (gV 10 (MW M σ f e) M 10) = some (M + 3)) ∧
  (∀ f e, toI (gV 10 (MW M σ f e) M 11) = some (iI (f 11))) ∧
  (∀ f e v, pV 10 (MW M σ f e) M 11 (.int (iI v)) = some (MW M σ (updZ f 11 v) e)) ∧
  (∀ f e, toI (gV 10 (MW M σ f e) M 12) = some (iI (f 12))) ∧
  (∀ f e v, pV 10 (MW M σ f e) M 12 (.int (iI v)) = some (MW M σ (updZ f 12 v) e)) ∧
  (∀ f e, toI (gV 10 (MW M σ f e) M 13) = some (iI (f 13))) ∧
  (∀ f e v, pV 10 (MW M σ f e) M 13 (.int (iI v)) = some (MW M σ (updZ f 13 v) e)) ∧
  (∀ f e, toI (gV 10 (MW M σ f e) M 14) = some (iI (f 14))) ∧
  (∀ f e v, pV 10 (MW M σ f e) M 14 (.int (iI v)) = some (MW M σ (updZ f 14 v) e)) ∧
  (∀ f e, toR (gV 10 (MW M σ f e) M 15) = some (M + 4)) ∧
  (∀ f e, toR (gV 10 (MW M σ f e) M 16) = some (M + 5)) ∧
  (∀ f e, toR (gV 10 (MW M σ f e) M 17) = some (M + 6)) ∧
  (∀ f e, toR (gV 10 (MW M σ f e) M 18) = some (M + 7)) ∧
  (∀ f e, toR (gV 10 (MW M σ f e) M 19) = some (M + 8)) ∧
  (∀ f e, toI (gV 10 (MW M σ f e) M 20) = some (iI (f 20))) ∧
  (∀ f e v, pV 10 (MW M σ f e) M 20 (.int (iI v)) = some (MW M σ (updZ f 20 v) e)) ∧
  (∀ f e, toR (gV 10 (MW M σ f e) M 21) = some (M + 9)) ∧
  (∀ f e, toR (gV 10 (MW M σ f e) M 22) = some (M + 10)) ∧
  (∀ f e, toR (gV 10 (MW M σ f e) M 23) = some (M + 11)) ∧
  (∀ f e, toR (gV 10 (MW M σ f e) M 24) = some (M + 12)) ∧
  (∀ f e, toR (gV 10 (MW M σ f e) M 25) = some (M + 13)) ∧
  (∀ f e, toR (gV 10 (MW M σ f e) M 26) = some (M + 14)) ∧
  (∀ f e, toI (gV 10 (MW M σ f e) M 27) = some (iI (f 27))) ∧
  (∀ f e v, pV 10 (MW M σ f e) M 27 (.int (iI v)) = some (MW M σ (updZ f 27 v) e)) ∧
  (∀ f e, toR (gV 10 (MW M σ f e) M 28) = some (M + 15)) ∧
  (∀ f e, toI (gV 10 (MW M σ f e) M 29) = some (iI (f 29))) ∧
  (∀ f e v, pV 10 (MW M σ f e) M 29 (.int (iI v)) = some (MW M σ (updZ f 29 v) e)) ∧
  (∀ f e, toI (gV 10 (MW M σ f e) M 30) = some (iI (f 30))) ∧
  (∀ f e v, pV 10 (MW M σ f e) M 30 (.int (iI v)) = some (MW M σ (updZ f 30 v) e)) ∧
  (∀ f e, toI (gV 10 (MW M σ f e) M 31) = some (iI (f 31))) ∧
  (∀ f e v, pV 10 (MW M σ f e) M 31 (.int (iI v)) = some (MW M σ (updZ f 31 v) e)) ∧
  (∀ f e, toI (gV 10 (MW M σ f e) M 32) = some (iI (f 32))) ∧
  (∀ f e v, pV 10 (MW M σ f e) M 32 (.int (iI v)) = some (MW M σ (updZ f 32 v) e)) ∧
  (∀ f e, toR (gV 10 (MW M σ f e) M 33) = some (M + 16)) ∧
  (∀ f e, toI (gV 10 (MW M σ f e) M 34) = some (iI (f 34))) ∧
  (∀ f e v, pV 10 (MW M σ f e) M 34 (.int (iI v)) = some (MW M σ (updZ f 34 v) e)) ∧
  (∀ f e, toR (gV 10 (MW M σ f e) M 35) = some (M + 17)) ∧
  (∀ f e, toI (gV 10 (MW M σ f e) M 36) = some (iI (f 36))) ∧
  (∀ f e v, pV 10 (MW M σ f e) M 36 (.int (iI v)) = some (MW M σ (updZ f 36 v) e)) ∧
  (∀ f e, toR (gV 10 (MW M σ f e) M 37) = some (M + 18)) ∧
  (∀ f e, toI (gV 10 (MW M σ f e) M 38) = some (iI (f 38))) ∧
  (∀ f e v, pV 10 (MW M σ f e) M 38 (.int (iI v)) = some (MW M σ (updZ f 38 v) e)) ∧
  (∀ f e, toI (gV 10 (MW M σ f e) M 39) = some (iI (f 39))) ∧
  (∀ f e v, pV 10 (MW M σ f e) M 39 (.int (iI v)) = some (MW M σ (updZ f 39 v) e)) ∧
  (∀ f e, toI (gV 10 (MW M σ f e) M 40) = some (iI (f 40))) ∧
  (∀ f e v, pV 10 (MW M σ f e) M 40 (.int (iI v)) = some (MW M σ (updZ f 40 v) e)) ∧
  (∀ f e (z : Int), 0 ≤ z → z < 160 → toI (aV 11 (MW M σ f e) (M + 1) (iI z)) = some (iI (e 1 z))) ∧
  (∀ f e (z v : Int), 0 ≤ z → z < 160 → sV 11 (MW M σ f e) (M + 1) (iI z) (.int (iI v)) = some (MW M σ f (ups e 1 z v))) ∧
  (∀ f e (z : Int), 0 ≤ z → z < 61 → toI (aV 11 (MW M σ f e) (M + 2) (iI z)) = some (iI (e 2 z))) ∧
  (∀ f e (z v : Int), 0 ≤ z → z < 61 → sV 11 (MW M σ f e) (M + 2) (iI z) (.int (iI v)) = some (MW M σ f (ups e 2 z v))) ∧
  (∀ f e (z : Int), 0 ≤ z → z < 61 → toI (aV 11 (MW M σ f e) (M + 3) (iI z)) = some (iI (e 3 z))) ∧
  (∀ f e (z v : Int), 0 ≤ z → z < 61 → sV 11 (MW M σ f e) (M + 3) (iI z) (.int (iI v)) = some (MW M σ f (ups e 3 z v))) ∧
  (∀ f e (z : Int), 0 ≤ z → z < 488 → toI (aV 11 (MW M σ f e) (M + 4) (iI z)) = some (iI (e 4 z))) ∧
  (∀ f e (z v : Int), 0 ≤ z → z < 488 → sV 11 (MW M σ f e) (M + 4) (iI z) (.int (iI v)) = some (MW M σ f (ups e 4 z v))) ∧
  (∀ f e (z : Int), 0 ≤ z → z < 8 → toI (aV 11 (MW M σ f e) (M + 5) (iI z)) = some (iI (e 5 z))) ∧
  (∀ f e (z v : Int), 0 ≤ z → z < 8 → sV 11 (MW M σ f e) (M + 5) (iI z) (.int (iI v)) = some (MW M σ f (ups e 5 z v))) ∧
  (∀ f e (z : Int), 0 ≤ z → z < 8 → toI (aV 11 (MW M σ f e) (M + 6) (iI z)) = some (iI (e 6 z))) ∧
  (∀ f e (z v : Int), 0 ≤ z → z < 8 → sV 11 (MW M σ f e) (M + 6) (iI z) (.int (iI v)) = some (MW M σ f (ups e 6 z v))) ∧
  (∀ f e (z : Int), 0 ≤ z → z < 8 → toI (aV 11 (MW M σ f e) (M + 7) (iI z)) = some (iI (e 7 z))) ∧
  (∀ f e (z v : Int), 0 ≤ z → z < 8 → sV 11 (MW M σ f e) (M + 7) (iI z) (.int (iI v)) = some (MW M σ f (ups e 7 z v))) ∧
  (∀ f e (z : Int), 0 ≤ z → z < 8 → toI (aV 11 (MW M σ f e) (M + 8) (iI z)) = some (iI (e 8 z))) ∧
  (∀ f e (z v : Int), 0 ≤ z → z < 8 → sV 11 (MW M σ f e) (M + 8) (iI z) (.int (iI v)) = some (MW M σ f (ups e 8 z v))) ∧
  (∀ f e (z : Int), 0 ≤ z → z < 20 → toI (aV 11 (MW M σ f e) (M + 9) (iI z)) = some (iI (e 9 z))) ∧
  (∀ f e (z v : Int), 0 ≤ z → z < 20 → sV 11 (MW M σ f e) (M + 9) (iI z) (.int (iI v)) = some (MW M σ f (ups e 9 z v))) ∧
  (∀ f e (z : Int), 0 ≤ z → z < 20 → toI (aV 11 (MW M σ f e) (M + 10) (iI z)) = some (iI (e 10 z))) ∧
  (∀ f e (z v : Int), 0 ≤ z → z < 20 → sV 11 (MW M σ f e) (M + 10) (iI z) (.int (iI v)) = some (MW M σ f (ups e 10 z v))) ∧
  (∀ f e (z : Int), 0 ≤ z → z < 20 → toI (aV 11 (MW M σ f e) (M + 11) (iI z)) = some (iI (e 11 z))) ∧
  (∀ f e (z v : Int), 0 ≤ z → z < 20 → sV 11 (MW M σ f e) (M + 11) (iI z) (.int (iI v)) = some (MW M σ f (ups e 11 z v))) ∧
  (∀ f e (z : Int), 0 ≤ z → z < 20 → toI (aV 11 (MW M σ f e) (M + 12) (iI z)) = some (iI (e 12 z))) ∧
  (∀ f e (z v : Int), 0 ≤ z → z < 20 → sV 11 (MW M σ f e) (M + 12) (iI z) (.int (iI v)) = some (MW M σ f (ups e 12 z v))) ∧
  (∀ f e (z : Int), 0 ≤ z → z < 20 → toI (aV 11 (MW M σ f e) (M + 13) (iI z)) = some (iI (e 13 z))) ∧
  (∀ f e (z v : Int), 0 ≤ z → z < 20 → sV 11 (MW M σ f e) (M + 13) (iI z) (.int (iI v)) = some (MW M σ f (ups e 13 z v))) ∧
  (∀ f e (z : Int), 0 ≤ z → z < 20 → toI (aV 11 (MW M σ f e) (M + 14) (iI z)) = some (iI (e 14 z))) ∧
  (∀ f e (z v : Int), 0 ≤ z → z < 20 → sV 11 (MW M σ f e) (M + 14) (iI z) (.int (iI v)) = some (MW M σ f (ups e 14 z v))) ∧
  (∀ f e (z : Int), 0 ≤ z → z < 81 → toI (aV 11 (MW M σ f e) (M + 15) (iI z)) = some (iI (e 15 z))) ∧
  (∀ f e (z v : Int), 0 ≤ z → z < 81 → sV 11 (MW M σ f e) (M + 15) (iI z) (.int (iI v)) = some (MW M σ f (ups e 15 z v))) ∧
  (∀ f e (z : Int), 0 ≤ z → z < 8 → toI (aV 11 (MW M σ f e) (M + 16) (iI z)) = some (iI (e 16 z))) ∧
  (∀ f e (z v : Int), 0 ≤ z → z < 8 → sV 11 (MW M σ f e) (M + 16) (iI z) (.int (iI v)) = some (MW M σ f (ups e 16 z v))) ∧
  (∀ f e (z : Int), 0 ≤ z → z < 8 → toI (aV 11 (MW M σ f e) (M + 17) (iI z)) = some (iI (e 17 z))) ∧
  (∀ f e (z v : Int), 0 ≤ z → z < 8 → sV 11 (MW M σ f e) (M + 17) (iI z) (.int (iI v)) = some (MW M σ f (ups e 17 z v))) ∧
  (∀ f e (z : Int), 0 ≤ z → z < 8 → toI (aV 11 (MW M σ f e) (M + 18) (iI z)) = some (iI (e 18 z))) ∧
  (∀ f e (z v : Int), 0 ≤ z → z < 8 → sV 11 (MW M σ f e) (M + 18) (iI z) (.int (iI v)) = some (MW M σ f (ups e 18 z v)))
theorem mAll (hS : Msh M σ) : MRr M σ :=
  ⟨mw_o hS,
  fun f e => mw_I hS f e 0 (by decide) rfl,
  fun f e v => mw_P hS f e 0 v (by decide) rfl,
  fun f e => mw_I hS f e 1 (by decide) rfl,
  fun f e v => mw_P hS f e 1 v (by decide) rfl,
  fun f e => mw_I hS f e 2 (by decide) rfl,
  fun f e v => mw_P hS f e 2 v (by decide) rfl,
  fun f e => mw_I hS f e 3 (by decide) rfl,
  fun f e v => mw_P hS f e 3 v (by decide) rfl,
  fun f e => mw_R hS f e 4 (by decide) (by decide),
  fun f e => mw_I hS f e 5 (by decide) rfl,
  fun f e v => mw_P hS f e 5 v (by decide) rfl,
  fun f e => mw_I hS f e 6 (by decide) rfl,
  fun f e v => mw_P hS f e 6 v (by decide) rfl,
  fun f e => mw_I hS f e 7 (by decide) rfl,
  fun f e v => mw_P hS f e 7 v (by decide) rfl,
  fun f e => mw_I hS f e 8 (by decide) rfl,
  fun f e v => mw_P hS f e 8 v (by decide) rfl,
  fun f e => mw_R hS f e 9 (by decide) (by decide),
  fun f e => mw_R hS f e 10 (by decide) (by decide),
  fun f e => mw_I hS f e 11 (by decide) rfl,
  fun f e v => mw_P hS f e 11 v (by decide) rfl,
  fun f e => mw_I hS f e 12 (by decide) rfl,
  fun f e v => mw_P hS f e 12 v (by decide) rfl,
  fun f e => mw_I hS f e 13 (by decide) rfl,
  fun f e v => mw_P hS f e 13 v (by decide) rfl,
  fun f e => mw_I hS f e 14 (by decide) rfl,
  fun f e v => mw_P hS f e 14 v (by decide) rfl,
  fun f e => mw_R hS f e 15 (by decide) (by decide),
  fun f e => mw_R hS f e 16 (by decide) (by decide),
  fun f e => mw_R hS f e 17 (by decide) (by decide),
  fun f e => mw_R hS f e 18 (by decide) (by decide),
  fun f e => mw_R hS f e 19 (by decide) (by decide),
  fun f e => mw_I hS f e 20 (by decide) rfl,
  fun f e v => mw_P hS f e 20 v (by decide) rfl,
  fun f e => mw_R hS f e 21 (by decide) (by decide),
  fun f e => mw_R hS f e 22 (by decide) (by decide),
  fun f e => mw_R hS f e 23 (by decide) (by decide),
  fun f e => mw_R hS f e 24 (by decide) (by decide),
  fun f e => mw_R hS f e 25 (by decide) (by decide),
  fun f e => mw_R hS f e 26 (by decide) (by decide),
  fun f e => mw_I hS f e 27 (by decide) rfl,
  fun f e v => mw_P hS f e 27 v (by decide) rfl,
  fun f e => mw_R hS f e 28 (by decide) (by decide),
  fun f e => mw_I hS f e 29 (by decide) rfl,
  fun f e v => mw_P hS f e 29 v (by decide) rfl,
  fun f e => mw_I hS f e 30 (by decide) rfl,
  fun f e v => mw_P hS f e 30 v (by decide) rfl,
  fun f e => mw_I hS f e 31 (by decide) rfl,
  fun f e v => mw_P hS f e 31 v (by decide) rfl,
  fun f e => mw_I hS f e 32 (by decide) rfl,
  fun f e v => mw_P hS f e 32 v (by decide) rfl,
  fun f e => mw_R hS f e 33 (by decide) (by decide),
  fun f e => mw_I hS f e 34 (by decide) rfl,
  fun f e v => mw_P hS f e 34 v (by decide) rfl,
  fun f e => mw_R hS f e 35 (by decide) (by decide),
  fun f e => mw_I hS f e 36 (by decide) rfl,
  fun f e v => mw_P hS f e 36 v (by decide) rfl,
  fun f e => mw_R hS f e 37 (by decide) (by decide),
  fun f e => mw_I hS f e 38 (by decide) rfl,
  fun f e v => mw_P hS f e 38 v (by decide) rfl,
  fun f e => mw_I hS f e 39 (by decide) rfl,
  fun f e v => mw_P hS f e 39 v (by decide) rfl,
  fun f e => mw_I hS f e 40 (by decide) rfl,
  fun f e v => mw_P hS f e 40 v (by decide) rfl,
  fun f e z a b => mw_A hS f e 1 160 z (by decide) (by decide) rfl (by decide) a b,
  fun f e z v a b => mw_S hS f e 1 160 z v (by decide) (by decide) rfl (by decide) a b,
  fun f e z a b => mw_A hS f e 2 61 z (by decide) (by decide) rfl (by decide) a b,
  fun f e z v a b => mw_S hS f e 2 61 z v (by decide) (by decide) rfl (by decide) a b,
  fun f e z a b => mw_A hS f e 3 61 z (by decide) (by decide) rfl (by decide) a b,
  fun f e z v a b => mw_S hS f e 3 61 z v (by decide) (by decide) rfl (by decide) a b,
  fun f e z a b => mw_A hS f e 4 488 z (by decide) (by decide) rfl (by decide) a b,
  fun f e z v a b => mw_S hS f e 4 488 z v (by decide) (by decide) rfl (by decide) a b,
  fun f e z a b => mw_A hS f e 5 8 z (by decide) (by decide) rfl (by decide) a b,
  fun f e z v a b => mw_S hS f e 5 8 z v (by decide) (by decide) rfl (by decide) a b,
  fun f e z a b => mw_A hS f e 6 8 z (by decide) (by decide) rfl (by decide) a b,
  fun f e z v a b => mw_S hS f e 6 8 z v (by decide) (by decide) rfl (by decide) a b,
  fun f e z a b => mw_A hS f e 7 8 z (by decide) (by decide) rfl (by decide) a b,
  fun f e z v a b => mw_S hS f e 7 8 z v (by decide) (by decide) rfl (by decide) a b,
  fun f e z a b => mw_A hS f e 8 8 z (by decide) (by decide) rfl (by decide) a b,
  fun f e z v a b => mw_S hS f e 8 8 z v (by decide) (by decide) rfl (by decide) a b,
  fun f e z a b => mw_A hS f e 9 20 z (by decide) (by decide) rfl (by decide) a b,
  fun f e z v a b => mw_S hS f e 9 20 z v (by decide) (by decide) rfl (by decide) a b,
  fun f e z a b => mw_A hS f e 10 20 z (by decide) (by decide) rfl (by decide) a b,
  fun f e z v a b => mw_S hS f e 10 20 z v (by decide) (by decide) rfl (by decide) a b,
  fun f e z a b => mw_A hS f e 11 20 z (by decide) (by decide) rfl (by decide) a b,
  fun f e z v a b => mw_S hS f e 11 20 z v (by decide) (by decide) rfl (by decide) a b,
  fun f e z a b => mw_A hS f e 12 20 z (by decide) (by decide) rfl (by decide) a b,
  fun f e z v a b => mw_S hS f e 12 20 z v (by decide) (by decide) rfl (by decide) a b,
  fun f e z a b => mw_A hS f e 13 20 z (by decide) (by decide) rfl (by decide) a b,
  fun f e z v a b => mw_S hS f e 13 20 z v (by decide) (by decide) rfl (by decide) a b,
  fun f e z a b => mw_A hS f e 14 20 z (by decide) (by decide) rfl (by decide) a b,
  fun f e z v a b => mw_S hS f e 14 20 z v (by decide) (by decide) rfl (by decide) a b,
  fun f e z a b => mw_A hS f e 15 81 z (by decide) (by decide) rfl (by decide) a b,
  fun f e z v a b => mw_S hS f e 15 81 z v (by decide) (by decide) rfl (by decide) a b,
  fun f e z a b => mw_A hS f e 16 8 z (by decide) (by decide) rfl (by decide) a b,
  fun f e z v a b => mw_S hS f e 16 8 z v (by decide) (by decide) rfl (by decide) a b,
  fun f e z a b => mw_A hS f e 17 8 z (by decide) (by decide) rfl (by decide) a b,
  fun f e z v a b => mw_S hS f e 17 8 z v (by decide) (by decide) rfl (by decide) a b,
  fun f e z a b => mw_A hS f e 18 8 z (by decide) (by decide) rfl (by decide) a b,
  fun f e z v a b => mw_S hS f e 18 8 z v (by decide) (by decide) rfl (by decide) a b⟩
theorem or0 (x : Int32) : x ||| iI 0 = x := Int32.or_zero
/-- a truth as the machine holds it -/
def bI (c : Prop) [Decidable c] : Int32 := if c then 1 else 0
theorem bI_0 (c : Prop) [Decidable c] : (bI c = iI 0) ↔ ¬ c := by
  unfold bI
  by_cases h : c
  · rw [if_pos h]; exact ⟨fun q => absurd q (by decide), fun q => absurd h q⟩
  · rw [if_neg h]; exact ⟨fun _ => h, fun _ => rfl⟩
theorem bI_1 (c : Prop) [Decidable c] : (bI c = iI 1) ↔ c := by
  unfold bI
  by_cases h : c
  · rw [if_pos h]; exact ⟨fun _ => h, fun _ => rfl⟩
  · rw [if_neg h]; exact ⟨fun q => absurd q (by decide), fun q => absurd q h⟩
theorem bI_01 (c : Prop) [Decidable c] : (bI c = iI 0 ∨ bI c = iI 1) ↔ True := by
  rw [bI_0, bI_1]
  by_cases h : c <;> simp [h]
theorem bI_t {c : Prop} [Decidable c] (h : c) : bI c = iI 1 := (bI_1 c).mpr h
theorem bI_f {c : Prop} [Decidable c] (h : ¬ c) : bI c = iI 0 := (bI_0 c).mpr h
theorem bI_iff {c d : Prop} [Decidable c] [Decidable d] (h : c ↔ d) : bI c = bI d := by
  by_cases hc : c
  · rw [bI_t hc, bI_t (h.mp hc)]
  · rw [bI_f hc, bI_f (fun q => hc (h.mpr q))]
theorem m_in {n : Nat} {s : Sg} {v lo hi : Int} (h1 : -2147483648 ≤ v ∧ v < 2147483648) (h2 : -2147483648 ≤ lo ∧ lo < 2147483648) (h3 : -2147483648 ≤ hi ∧ hi < 2147483648) : mX10_in n s (iI v) (iI lo) (iI hi) = some (bI (lo ≤ v ∧ v ≤ hi), s) := by
  unfold mX10_in
  simp (disch := omega) only [iI_lt]
  by_cases c1 : v < lo
  · rw [if_pos c1, bI_f (by omega)]; rfl
  · rw [if_neg c1]
    by_cases c2 : hi < v
    · rw [if_pos c2, bI_f (by omega)]; rfl
    · rw [if_neg c2, bI_t (by omega)]; rfl
end X50
