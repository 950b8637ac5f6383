/-! ===== the class's nets: what their methods do ===== -/
/-- a Net at a with its gaps at g: so many points, these least gaps -/
def NetAt (σ : Sg) (a g p : Nat) (d : Nat → Int) : Prop := σ.2.1 a = some (4, 2) ∧ σ.2.1 g = some (11, 81) ∧ a ≠ g ∧ σ.2.2 a 0 = .ref g ∧ σ.2.2 a 1 = .int (iI p) ∧ σ.2.2 g = iz d
theorem NetAt.setA {σ : Sg} {a g p : Nat} {d e : Nat → Int} (h : NetAt σ a g p d) : NetAt (setA σ g e) a g p e := by
  obtain ⟨h1, h2, h3, h4, h5, h6⟩ := h
  exact ⟨h1, h2, h3, by rw [setA_ne _ _ h3]; exact h4, by rw [setA_ne _ _ h3]; exact h5, setA_self _ _ _⟩
def Bd (d : Nat → Int) : Prop := ∀ k, -1000000 ≤ d k ∧ d k ≤ 1000000
theorem net_isPoint {σ : Sg} {a g n p i : Nat} {d : Nat → Int} (h : NetAt σ a g p d) (hp : p ≤ 9) (hi : i < p) : mX4_isPoint n σ a (iI i) = some (1, σ) := by
  unfold mX4_isPoint
  rw [isO_ok h.1]
  simp only [Option.bind_some, gI_ok h.1 (show 1 < 2 by omega) h.2.2.2.2.1]
  rw [if_neg (by rw [iI_0, iI_lt (by omega) (by omega)]; omega), if_neg (by rw [iI_le (by omega) (by omega)]; omega)]
theorem net_least {σ : Sg} {a g n p i j : Nat} {d : Nat → Int} (h : NetAt σ a g p d) (hp : p ≤ 9) (hi : i < p) (hj : j < p) : mX4_least n σ a (iI i) (iI j) = some (iI (d (i * 9 + j)), σ) := by
  have q1 := net_isPoint (n := n) h hp hi
  have q2 := net_isPoint (n := n) h hp hj
  obtain ⟨h1, h2, h3, h4, h5, h6⟩ := h
  unfold mX4_least
  rw [isO_ok h1]
  simp only [Option.bind_some, q1, q2, if_neg (show ¬ (1 : Int32) = 0 by decide)]
  rw [gR_ok h1 (by omega) h4]
  simp only [Option.bind_some, iI_lit, iI_mul, iI_add]
  rw [aI_ok h2 h6 (by omega) (by omega) (by omega), show ((i : Int) * (9 : Nat) + j).toNat = i * 9 + j by omega]
  rfl
theorem net_fits {σ : Sg} {a g n p i j : Nat} {r : Int} {d : Nat → Int} (h : NetAt σ a g p d) (hp : p ≤ 9) (hi : i < p) (hj : j < p) (hd : Bd d) (hr : -100000000 ≤ r ∧ r ≤ 100000000) : mX4_fits n σ a (iI i) (iI j) (iI r) = some (if d (i * 9 + j) + r ≤ 0 then 1 else 0, σ) := by
  unfold mX4_fits
  rw [isO_ok h.1]
  have hb := hd (i * 9 + j)
  simp only [Option.bind_some, net_isPoint h hp hi, net_isPoint h hp hj, if_neg (show ¬ (1 : Int32) = 0 by decide)]
  rw [gR_ok h.1 (by omega) h.2.2.2.1]
  have hv : toI (aV 11 σ g (iI i * (9 : Int32) + iI j)) = some (iI (d (i * 9 + j))) := by
    simp only [iI_lit, iI_mul, iI_add]
    rw [aI_ok h.2.1 h.2.2.2.2.2 (by omega) (by omega) (by omega), show ((i : Int) * (9 : Nat) + j).toNat = i * 9 + j by omega]
  simp only [Option.bind_some, hv, iI_add]
  have hc : (0 : Int32) < iI (d (i * 9 + j) + r) ↔ 0 < d (i * 9 + j) + r := by
    rw [iI_0, iI_lt (by omega) (by omega)]
  by_cases c : d (i * 9 + j) + r ≤ 0
  · rw [if_pos c, if_neg (fun q => by have := hc.mp q; omega)]
  · rw [if_neg c, if_pos (hc.mpr (by omega))]
def wid (p : Nat) (d : Nat → Int) (i o : Nat) (r : Int) : Nat → Int := fun k => if k / 9 = i ∧ k % 9 < p then max (d k) (r + d (o * 9 + k % 9)) else d k
theorem wid_0 (d : Nat → Int) (i o : Nat) (r : Int) : wid 0 d i o r = d := by
  funext k
  unfold wid
  rw [if_neg (by omega)]
theorem wid_row {t : Nat} {d : Nat → Int} {i o : Nat} {r : Int} (hio : i ≠ o) {j : Nat} (hj : j < 9) : wid t d i o r (o * 9 + j) = d (o * 9 + j) := by
  unfold wid
  rw [if_neg (by omega)]
theorem wid_here {t : Nat} {d : Nat → Int} {i o : Nat} {r : Int} {j : Nat} (hj : j < 9) (ht : t ≤ j) : wid t d i o r (i * 9 + j) = d (i * 9 + j) := by
  unfold wid
  rw [if_neg (by omega)]
theorem wid_succ {t : Nat} {d : Nat → Int} {i o : Nat} {r : Int} (ht : t < 9) : wid (t + 1) d i o r = updZ (wid t d i o r) (i * 9 + t) (max (d (i * 9 + t)) (r + d (o * 9 + t))) := by
  funext k
  simp only [wid, updZ]
  by_cases hk : k = i * 9 + t
  · subst hk
    rw [if_pos (by omega), if_pos rfl, show (i * 9 + t) % 9 = t by omega]
  · rw [if_neg hk]
    by_cases c : k / 9 = i ∧ k % 9 < t
    · rw [if_pos (by omega), if_pos c]
    · rw [if_neg (by omega), if_neg c]
theorem net_widen {σ : Sg} {a g n p i o : Nat} {r : Int} {d : Nat → Int} (h : NetAt σ a g p d) (hi : i < 9) (ho : o < 9) (hio : i ≠ o) (hp : p ≤ 9) (hd : Bd d) (hr : -100000000 ≤ r ∧ r ≤ 100000000) (hn : 100000 ≤ n) : mX4_widen n σ a (iI (i * 9 : Nat)) (iI (o * 9 : Nat)) (iI r) = some (setA σ g (wid p d i o r)) := by
  unfold mX4_widen
  rw [isO_ok h.1]
  have L : loopM (mX4_widen_L3 n a (iI (i * 9 : Nat)) (iI (o * 9 : Nat)) (iI r)) n (σ, (0 : Int32)) = some (setA σ g (wid p d i o r)) := by
    have e0 : (σ, (0 : Int32)) = (fun t : Nat => (setA σ g (wid t d i o r), iI t)) 0 := by
      simp only [wid_0, setA_id h.2.2.2.2.2]; rfl
    rw [e0]
    refine loop_run (fun t : Nat => (setA σ g (wid t d i o r), iI t)) p 0 (fun t _ ht => ?_) ?_ n (by omega)
    · have N := h.setA (e := wid t d i o r)
      obtain ⟨n1, n2, n3, n4, n5, n6⟩ := N
      have b1 := hd (o * 9 + t)
      have b2 := hd (i * 9 + t)
      have r1 : toI (aV 11 (setA σ g (wid t d i o r)) g (iI ((o * 9 : Nat) + (t : Int)))) = some (iI (d (o * 9 + t))) := by
        rw [aI_ok n2 n6 (by omega) (by omega) (by omega), show ((o * 9 : Nat) + (t : Int)).toNat = o * 9 + t by omega, wid_row hio (by omega)]
      have r2 : toI (aV 11 (setA σ g (wid t d i o r)) g (iI ((i * 9 : Nat) + (t : Int)))) = some (iI (d (i * 9 + t))) := by
        rw [aI_ok n2 n6 (by omega) (by omega) (by omega), show ((i * 9 : Nat) + (t : Int)).toNat = i * 9 + t by omega, wid_here (by omega) (by omega)]
      have r3 : ∀ v, sV 11 (setA σ g (wid t d i o r)) g (iI ((i * 9 : Nat) + (t : Int))) (.int (iI v)) = some (setA σ g (updZ (wid t d i o r) (i * 9 + t) v)) := by
        intro v
        rw [sV_ok n2 n6 (by omega) (by omega) (by omega), show ((i * 9 : Nat) + (t : Int)).toNat = i * 9 + t by omega, setA_setA]
      simp only [mX4_widen_L3, gI_ok n1 (show 1 < 2 by omega) n5, gR_ok n1 (show 0 < 2 by omega) n4, Option.bind_some, iI_add, nm, r1, r2]
      rw [if_neg (by rw [iI_le (by omega) (by omega)]; omega)]
      by_cases c : r + d (o * 9 + t) ≤ d (i * 9 + t)
      · rw [if_pos (by rw [iI_le (by omega) (by omega)]; exact c)]
        have e1 : wid (t + 1) d i o r = wid t d i o r := by
          rw [wid_succ (by omega), show max (d (i * 9 + t)) (r + d (o * 9 + t)) = d (i * 9 + t) by omega]
          funext k
          unfold updZ
          split
          · rename_i hk; rw [hk, wid_here (by omega) (by omega)]
          · rfl
        simp only [mX4_widen_50, iI_1, iI_add, e1]; rfl
      · rw [if_neg (by rw [iI_le (by omega) (by omega)]; exact c), r3]
        simp only [mX4_widen_50, Option.bind_some, iI_1, iI_add]
        rw [wid_succ (by omega), show max (d (i * 9 + t)) (r + d (o * 9 + t)) = r + d (o * 9 + t) by omega]; rfl
    · have N := h.setA (e := wid p d i o r)
      simp only [Nat.zero_add, mX4_widen_L3, gI_ok N.1 (show 1 < 2 by omega) N.2.2.2.2.1, Option.bind_some]
      rw [if_pos (by rw [iI_le (by omega) (by omega)]; omega)]
  simp only [Option.bind_some, L]
