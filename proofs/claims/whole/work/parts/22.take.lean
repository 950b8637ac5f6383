/-! ===== one gap more ===== -/
def Bs (d : Nat → Int) : Prop := ∀ k, -3000 ≤ d k ∧ d k ≤ 3000
def adg (t p : Nat) (d : Nat → Int) (o u : Nat) (r : Int) : Nat → Int := fun k => if k / 9 < t ∧ k % 9 < p ∧ d (k / 9 * 9 + o) < d (k / 9 * 9 + u) + r then max (d k) (d (k / 9 * 9 + u) + r + d (o * 9 + k % 9)) else d k
theorem adg_0 (p : Nat) (d : Nat → Int) (o u : Nat) (r : Int) : adg 0 p d o u r = d := by
  funext k
  unfold adg
  rw [if_neg (by omega)]
theorem adg_row {t p : Nat} {d : Nat → Int} {o u : Nat} {r : Int} {i j : Nat} (hi : t ≤ i) (hj : j < 9) : adg t p d o u r (i * 9 + j) = d (i * 9 + j) := by
  unfold adg
  rw [if_neg (by omega)]
theorem adg_over {t p : Nat} {d : Nat → Int} {o u : Nat} {r : Int} {j : Nat} (hj : j < 9) (h0 : d (o * 9 + o) = 0) (hf : d (o * 9 + u) + r ≤ 0) : adg t p d o u r (o * 9 + j) = d (o * 9 + j) := by
  unfold adg
  rw [if_neg]
  rintro ⟨-, -, h⟩
  rw [show (o * 9 + j) / 9 = o by omega] at h
  omega
theorem adg_bd {t p : Nat} {d : Nat → Int} {o u : Nat} {r : Int} (hd : Bs d) (hr : r ≤ 3000) : Bd (adg t p d o u r) := by
  intro k
  have h1 := hd k
  have h2 := hd (k / 9 * 9 + u)
  have h3 := hd (o * 9 + k % 9)
  unfold adg
  split <;> omega
theorem adg_skip {t p : Nat} {d : Nat → Int} {o u : Nat} {r : Int} (h : ¬ d (t * 9 + o) < d (t * 9 + u) + r) : adg (t + 1) p d o u r = adg t p d o u r := by
  funext k
  unfold adg
  by_cases hk : k / 9 = t
  · rw [hk, if_neg (by omega), if_neg (by omega)]
  · by_cases c : k / 9 < t ∧ k % 9 < p ∧ d (k / 9 * 9 + o) < d (k / 9 * 9 + u) + r
    · rw [if_pos (by omega), if_pos c]
    · rw [if_neg (by omega), if_neg c]
theorem adg_succ {t p : Nat} {d : Nat → Int} {o u : Nat} {r : Int} (h : d (t * 9 + o) < d (t * 9 + u) + r) (h0 : d (o * 9 + o) = 0) (hf : d (o * 9 + u) + r ≤ 0) : adg (t + 1) p d o u r = wid p (adg t p d o u r) t o (d (t * 9 + u) + r) := by
  funext k
  have h9 : k % 9 < 9 := Nat.mod_lt _ (by omega)
  unfold wid
  rw [adg_over h9 h0 hf]
  by_cases hk : k / 9 = t
  · have e : adg t p d o u r k = d k := by unfold adg; rw [if_neg (by omega)]
    rw [e]
    unfold adg
    by_cases c : k % 9 < p
    · rw [if_pos (by rw [hk]; exact ⟨by omega, c, h⟩), if_pos ⟨hk, c⟩, hk]
    · rw [if_neg (by omega), if_neg (by omega)]
  · rw [if_neg (by omega)]
    unfold adg
    by_cases c : k / 9 < t ∧ k % 9 < p ∧ d (k / 9 * 9 + o) < d (k / 9 * 9 + u) + r
    · rw [if_pos (by omega), if_pos c]
    · rw [if_neg (by omega), if_neg c]
theorem net_takesGap {σ : Sg} {a g n p o u : Nat} {r : Int} {d : Nat → Int} (h : NetAt σ a g p d) (ho : o < p) (hu : u < p) (hp : p ≤ 9) (hd : Bs d) (h0 : d (o * 9 + o) = 0) (hT : ∀ i, i < p → d (i * 9 + u) + d (u * 9 + o) ≤ d (i * 9 + o)) (hr : -100000000 ≤ r ∧ r ≤ 100000000) (hn : 100000 ≤ n) :
    mX4_takesGap n σ a (iI o) (iI u) (iI r) = some (if d (o * 9 + u) + r ≤ 0 then 1 else 0, if d (o * 9 + u) + r ≤ 0 then setA σ g (adg p p d o u r) else σ) := by
  unfold mX4_takesGap
  have hB : Bd d := fun k => by have := hd k; omega
  rw [isO_ok h.1]
  simp only [Option.bind_some, net_fits h hp ho hu hB hr]
  by_cases hf : d (o * 9 + u) + r ≤ 0
  · rw [if_pos hf, if_pos hf, if_neg (by decide)]
    have b1 := hd (o * 9 + u)
    have b2 := hd (u * 9 + o)
    simp only [net_least h hp hu ho, Option.bind_some]
    by_cases hc : d (u * 9 + o) < r
    · rw [if_pos (by rw [iI_lt (by omega) (by omega)]; exact hc)]
      have L : loopM (mX4_takesGap_L27 n a (iI o) (iI u) (iI r)) n (σ, (0 : Int32)) = some (setA σ g (adg p p d o u r)) := by
        have e0 : (σ, (0 : Int32)) = (fun t : Nat => (setA σ g (adg t p d o u r), iI t)) 0 := by
          simp only [adg_0, setA_id h.2.2.2.2.2]; rfl
        rw [e0]
        refine loop_run (fun t : Nat => (setA σ g (adg t p d o u r), iI t)) p 0 (fun t _ ht => ?_) ?_ n (by omega)
        · have N := h.setA (e := adg t p d o u r)
          have c1 := hd (t * 9 + u)
          have c2 := hd (t * 9 + o)
          have e1 : adg t p d o u r (t * 9 + u) = d (t * 9 + u) := adg_row (Nat.le_refl t) (by omega)
          have e2 : adg t p d o u r (t * 9 + o) = d (t * 9 + o) := adg_row (Nat.le_refl t) (by omega)
          simp only [mX4_takesGap_L27, gI_ok N.1 (show 1 < 2 by omega) N.2.2.2.2.1, net_least N hp (show t < p by omega) hu, net_least N hp (show t < p by omega) ho, Option.bind_some, iI_add, nm, e1, e2]
          rw [if_neg (by rw [iI_le (by omega) (by omega)]; omega)]
          by_cases c : d (t * 9 + o) < d (t * 9 + u) + r
          · rw [if_neg (by rw [iI_le (by omega) (by omega)]; omega)]
            have hto : t ≠ o := fun e => by subst e; omega
            have w := net_widen (n := n) N (i := t) (o := o) (r := d (t * 9 + u) + r) (by omega) (by omega) hto hp (adg_bd hd (by omega)) (by omega) hn
            rw [setA_setA, ← adg_succ c h0 hf] at w
            simp only [iI_lit, iI_mul]
            rw [show ((t : Int) * (9 : Nat)) = ((t * 9 : Nat) : Int) by omega, show ((o : Int) * (9 : Nat)) = ((o * 9 : Nat) : Int) by omega, w]
            simp only [mX4_takesGap_74, Option.bind_some, iI_1, iI_add]; rfl
          · rw [if_pos (by rw [iI_le (by omega) (by omega)]; omega)]
            simp only [mX4_takesGap_74, iI_1, iI_add, adg_skip c]; rfl
        · have N := h.setA (e := adg p p d o u r)
          simp only [Nat.zero_add, mX4_takesGap_L27, gI_ok N.1 (show 1 < 2 by omega) N.2.2.2.2.1, Option.bind_some]
          rw [if_pos (by rw [iI_le (by omega) (by omega)]; omega)]
      simp only [L, Option.bind_some]
    · rw [if_neg (by rw [iI_lt (by omega) (by omega)]; exact hc)]
      have e1 : adg p p d o u r = d := by
        funext k
        unfold adg
        rw [if_neg]
        rintro ⟨q1, q2, q3⟩
        have := hT (k / 9) q1
        omega
      rw [e1, setA_id h.2.2.2.2.2]
  · rw [if_neg hf, if_neg hf, if_pos (by decide)]
