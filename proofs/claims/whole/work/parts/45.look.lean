/-! ===== look ===== -/
/-- the least matrix with one gap more -/
def addX (X : Nat → Nat → Int) (o u : Nat) (r : Int) : Nat → Nat → Int := fun i j => max (X i j) (X i u + r + X o j)
/-- the span with one gap more, 0 if that can not be -/
def spW (X : Nat → Nat → Int) (w o u : Nat) (r : Int) : Int := if X o u + r ≤ 0 then spn (addX X o u r) w else 0
section X45
variable {B n : Nat} {wa : Nat → Nat} {σ : Sg} {A : AS}
theorem net_spanWith {a g w o u : Nat} {r : Int} {d : Nat → Int} (h : NetAt σ a g (w + 1) d) (hd : Bs d) (hw : w ≤ 8) (ho : o < w + 1) (hu : u < w + 1) (hr : -100000 ≤ r ∧ r ≤ 100000) (hn : 100000 ≤ n) : mX4_spanWith n σ a (iI o) (iI u) (iI r) = some (iI (spW (mat d) w o u r), σ) := by
  have hB : Bd d := fun k => by have := hd k; omega
  have e3 : (0 : Int32) = iI ((0 : Nat) : Int) := rfl
  unfold mX4_spanWith spW
  simp only [isO_ok h.1, Option.bind_some, net_fits h (show w + 1 ≤ 9 by omega) ho hu hB (show -100000000 ≤ r ∧ r ≤ 100000000 by omega)]
  by_cases c : d (o * 9 + u) + r ≤ 0
  · rw [if_pos c, if_neg i10, if_pos (show mat d o u + r ≤ 0 from c)]
    have e1 := net_least (n := n) h (show w + 1 ≤ 9 by omega) (i := 0) (j := u) (by omega) hu
    have e2 := net_least (n := n) h (show w + 1 ≤ 9 by omega) (i := o) (j := 0) ho (by omega)
    rw [← e3] at e1 e2
    simp only [e1, e2, Option.bind_some, nm, iI_add]
    have e9 : iI (o : Int) * (9 : Int32) = iI ((o * 9 : Nat) : Int) := by
      rw [iI_lit, iI_mul, show ((o : Int) * (9 : Nat)) = ((o * 9 : Nat) : Int) by omega]
    rw [e9]
    generalize hF : d (0 * 9 + u) + r = F
    generalize hG : r + d (o * 9 + 0) = G
    have bF := hd (0 * 9 + u)
    have bG := hd (o * 9 + 0)
    have L : loopM (mX4_spanWith_L44 n a (iI u) (iI F) (iI G) (iI ((o * 9 : Nat) : Int))) n (σ, (0 : Int32), (1 : Int32)) = some (σ, iI (spn (addX (mat d) o u r) w)) := by
      have e0 : (σ, (0 : Int32), (1 : Int32)) = (fun t : Nat => (σ, iI (spn (addX (mat d) o u r) t), iI ((t + 1 : Nat) : Int))) 0 := rfl
      rw [e0]
      refine loop_run (fun t : Nat => (σ, iI (spn (addX (mat d) o u r) t), iI ((t + 1 : Nat) : Int))) w 0 (fun t _ ht => ?_) ?_ n (by omega)
      · obtain ⟨n1, n2, n3, n4, n5, n6⟩ := id h
        have rd : ∀ (k : Nat) (z : Int), z = k → k < 81 → toI (aV 11 σ g (iI z)) = some (iI (d k)) := fun k z hz hk => by
          rw [hz, aI_ok n2 n6 (by omega) (by omega) (by omega), show ((k : Int)).toNat = k by omega]
        have r1 := rd (o * 9 + (t + 1)) (((o * 9 : Nat) : Int) + ((t + 1 : Nat) : Int)) (by omega) (by omega)
        have r2 := rd (t + 1) (((0 : Nat) : Int) + ((t + 1 : Nat) : Int)) (by omega) (by omega)
        have r3 := rd ((t + 1) * 9 + u) (((t + 1 : Nat) : Int) * ((9 : Nat) : Int) + (u : Int)) (by omega) (by omega)
        have r4 := rd ((t + 1) * 9) (((t + 1 : Nat) : Int) * ((9 : Nat) : Int) + ((0 : Nat) : Int)) (by omega) (by omega)
        have b1 := hd (o * 9 + (t + 1))
        have b2 := hd (t + 1)
        have b3 := hd ((t + 1) * 9 + u)
        have b4 := hd ((t + 1) * 9)
        have nx : iI ((t + 1 : Nat) : Int) + (1 : Int32) = iI ((t + 1 + 1 : Nat) : Int) := pt1 (t + 1)
        have fin : ∀ (s p q : Int), mX4_spanWith_146 n σ (iI p) (iI s) a (iI u) (iI F) (iI G) (iI q) (iI ((t + 1 : Nat) : Int)) = some (.inl (σ, iI (s - p), iI ((t + 1 + 1 : Nat) : Int))) := fun s p q => by
          simp only [mX4_spanWith_146, nm, iI_sub, nx]
        have mid : ∀ (s p : Int), mX4_spanWith_102 n σ (iI p) (iI s) a (iI u) (iI F) (iI G) (iI ((o * 9 : Nat) : Int)) (iI ((t + 1 : Nat) : Int)) (iI (((t + 1 : Nat) : Int) * ((9 : Nat) : Int))) = some (.inl (σ, iI (s - p - max (d ((t + 1) * 9)) (d ((t + 1) * 9 + u) + G)), iI ((t + 1 + 1 : Nat) : Int))) := fun s p => by
          simp only [mX4_spanWith_102, nm, gR_ok n1 (show 0 < 2 by omega) n4, Option.bind_some, e3, iI_add, r3, r4, iI_sub]
          by_cases q : d ((t + 1) * 9 + u) + G ≤ d ((t + 1) * 9)
          · rw [if_pos ((c_le (RI.sm (by omega) (by omega)) (RI.sm (by omega) (by omega))).mpr q), fin, show max (d ((t + 1) * 9)) (d ((t + 1) * 9 + u) + G) = d ((t + 1) * 9) by omega]
          · rw [if_neg (fun z => q ((c_le (RI.sm (by omega) (by omega)) (RI.sm (by omega) (by omega))).mp z)), fin, show max (d ((t + 1) * 9)) (d ((t + 1) * 9 + u) + G) = d ((t + 1) * 9 + u) + G by omega]
        have sx : spn (addX (mat d) o u r) (t + 1) = spn (addX (mat d) o u r) t - max (d (t + 1)) (F + d (o * 9 + (t + 1))) - max (d ((t + 1) * 9)) (d ((t + 1) * 9 + u) + G) := by
          have y1 : addX (mat d) o u r (t + 1) 0 = max (d ((t + 1) * 9 + 0)) (d ((t + 1) * 9 + u) + r + d (o * 9 + 0)) := rfl
          have y2 : addX (mat d) o u r 0 (t + 1) = max (d (0 * 9 + (t + 1))) (d (0 * 9 + u) + r + d (o * 9 + (t + 1))) := rfl
          have y3 : spn (addX (mat d) o u r) (t + 1) = spn (addX (mat d) o u r) t + (-addX (mat d) o u r (t + 1) 0 - addX (mat d) o u r 0 (t + 1)) := rfl
          rw [y3, y1, y2, show (t + 1) * 9 + 0 = (t + 1) * 9 by omega, show 0 * 9 + (t + 1) = t + 1 by omega, ← hF, ← hG]
          omega
        simp only [mX4_spanWith_L44, gI_ok n1 (show 1 < 2 by omega) n5, gR_ok n1 (show 0 < 2 by omega) n4, Option.bind_some, nm, e3, iI_lit 9, iI_mul, iI_add, r1, r2]
        rw [if_neg (fun z => by have := (c_le (RI.sm (by omega) (by omega)) (RI.sm (by omega) (by omega))).mp z; omega)]
        by_cases q : F + d (o * 9 + (t + 1)) ≤ d (t + 1)
        · rw [if_pos ((c_le (RI.sm (by omega) (by omega)) (RI.sm (by omega) (by omega))).mpr q), mid, sx, show max (d (t + 1)) (F + d (o * 9 + (t + 1))) = d (t + 1) by omega]
        · rw [if_neg (fun z => q ((c_le (RI.sm (by omega) (by omega)) (RI.sm (by omega) (by omega))).mp z)), mid, sx, show max (d (t + 1)) (F + d (o * 9 + (t + 1))) = F + d (o * 9 + (t + 1)) by omega]
      · simp only [Nat.zero_add, mX4_spanWith_L44, gI_ok h.1 (show 1 < 2 by omega) h.2.2.2.2.1, Option.bind_some]
        rw [if_pos ((c_le (RI.sm (by omega) (by omega)) (RI.sm (by omega) (by omega))).mpr (by omega))]
    simp only [L, Option.bind_some]
  · rw [if_neg c, if_pos i00, if_neg (show ¬ mat d o u + r ≤ 0 from c)]; rfl
theorem spn_abs {X : Nat → Nat → Int} {b : Int} : ∀ w : Nat, (∀ i, i ≤ w → -b ≤ X i 0 ∧ X i 0 ≤ b ∧ -b ≤ X 0 i ∧ X 0 i ≤ b) → -(2 * b * w) ≤ spn X w ∧ spn X w ≤ 2 * b * w
  | 0, _ => by simp [spn]
  | w + 1, h => by
    have ih := spn_abs w (fun i hi => h i (by omega))
    have h1 := h (w + 1) (by omega)
    have e : 2 * b * ((w + 1 : Nat) : Int) = 2 * b * w + 2 * b := by
      rw [show (((w + 1 : Nat) : Int)) = (w : Int) + 1 by omega, Int.mul_add, Int.mul_one]
    unfold spn
    omega
theorem spW_R {d : Nat → Int} (hd : Bs d) {w o u : Nat} {r : Int} (hw : w ≤ 8) (hr : -100000 ≤ r ∧ r ≤ 100000) : -2000000 ≤ spW (mat d) w o u r ∧ spW (mat d) w o u r ≤ 2000000 := by
  unfold spW
  split
  · have := spn_abs (X := addX (mat d) o u r) (b := 106000) w (fun i hi => by
      have a1 := hd (i * 9 + 0)
      have a2 := hd (i * 9 + u)
      have a3 := hd (o * 9 + 0)
      have a4 := hd (0 * 9 + i)
      have a5 := hd (0 * 9 + u)
      have a6 := hd (o * 9 + i)
      unfold addX mat
      omega)
    have hw' : (w : Int) ≤ 8 := by omega
    omega
  · omega
theorem RS.but {τ : Sg} (h : RS B σ) (hs : τ.2.1 = σ.2.1) (hm : ∀ r, r < 50 → 6 ≤ r → r ≠ 8 → r ≠ 11 → r ≠ 12 → r ≠ 29 → r ≠ 30 → r ≠ 43 → r ≠ 46 → τ.2.2 (B + r) = σ.2.2 (B + r)) : RS B τ := by
  obtain ⟨h1, h2, h3, a1, a2, a3, a4, a5, a6, a7, a8, a9⟩ := h
  exact ⟨h1.same hs (hm 6 (by omega) (by omega) (by omega) (by omega) (by omega) (by omega) (by omega) (by omega) (by omega)) (hm 7 (by omega) (by omega) (by omega) (by omega) (by omega) (by omega) (by omega) (by omega) (by omega)), fun k hk => (h2 k hk).same hs (hm _ (by omega) (by omega) (by omega) (by omega) (by omega) (by omega) (by omega) (by omega) (by omega)) (hm _ (by omega) (by omega) (by omega) (by omega) (by omega) (by omega) (by omega) (by omega) (by omega)), fun k hk => (h3 k hk).same hs (hm _ (by omega) (by omega) (by omega) (by omega) (by omega) (by omega) (by omega) (by omega) (by omega)) (hm _ (by omega) (by omega) (by omega) (by omega) (by omega) (by omega) (by omega) (by omega) (by omega)), a1.same (hm _ (by omega) (by omega) (by omega) (by omega) (by omega) (by omega) (by omega) (by omega) (by omega)), a2.same (hm _ (by omega) (by omega) (by omega) (by omega) (by omega) (by omega) (by omega) (by omega) (by omega)), a3.same (hm _ (by omega) (by omega) (by omega) (by omega) (by omega) (by omega) (by omega) (by omega) (by omega)), a4.same (hm _ (by omega) (by omega) (by omega) (by omega) (by omega) (by omega) (by omega) (by omega) (by omega)), a5.same (hm _ (by omega) (by omega) (by omega) (by omega) (by omega) (by omega) (by omega) (by omega) (by omega)), a6.same (hm _ (by omega) (by omega) (by omega) (by omega) (by omega) (by omega) (by omega) (by omega) (by omega)), a7.same (hm _ (by omega) (by omega) (by omega) (by omega) (by omega) (by omega) (by omega) (by omega) (by omega)), a8.same (hm _ (by omega) (by omega) (by omega) (by omega) (by omega) (by omega) (by omega) (by omega) (by omega)), a9.same (hm _ (by omega) (by omega) (by omega) (by omega) (by omega) (by omega) (by omega) (by omega) (by omega))⟩
/-- lead and weight of a crossing -/
def lea (A : AS) (a b k : Nat) : Int := mad (wk A b) k - mad (wk A a) k + 1
def wei (A : AS) (X : Nat → Nat → Int) (a b k : Nat) : Int := max (spW X (wn A) (a + 1) (b + 1) (lea A a b k)) (spW X (wn A) (b + 1) (a + 1) (lea A b a k))
/-- what a crossing changes of the best one: first, second, cell, span -/
def gst (A : AS) (X : Nat → Nat → Int) (a b k : Nat) (g : Int × Int × Int × Int) : Int × Int × Int × Int := if both (wk A a) (wk A b) k ∧ verd X a b (lea A a b k) = -1 ∧ (g.2.2.2 = -1 ∨ wei A X a b k < g.2.2.2) then ((a : Int), (b : Int), (k : Int), wei A X a b k) else g
def gC (A : AS) (X : Nat → Nat → Int) (a b : Nat) (g : Int × Int × Int × Int) : Nat → Int × Int × Int × Int
  | 0 => g
  | k + 1 => gst A X a b k (gC A X a b g k)
def gB (A : AS) (X : Nat → Nat → Int) (a : Nat) (g : Int × Int × Int × Int) : Nat → Int × Int × Int × Int
  | 0 => g
  | b + 1 => if a < b then gC A X a b (gB A X a g b) 256 else gB A X a g b
def gA (A : AS) (X : Nat → Nat → Int) : Nat → Int × Int × Int × Int
  | 0 => (-1, -1, -1, -1)
  | a + 1 => gB A X a (gA A X a) (wn A)
/-- the glance holds g -/
def GlAt (B : Nat) (s : Sg) (g : Int × Int × Int × Int) : Prop := s.2.2 (B + 43) 0 = .int (iI g.1) ∧ s.2.2 (B + 43) 1 = .int (iI g.2.1) ∧ s.2.2 (B + 43) 2 = .int (iI g.2.2.1) ∧ s.2.2 (B + 43) 3 = .int (iI g.2.2.2)
/-- a world of look: the class stands, its net is d -/
def LkW (B : Nat) (wa : Nat → Nat) (σ : Sg) (A : AS) (d : Nat → Int) (g : Int × Int × Int × Int) (s : Sg) : Prop := St B wa s A ∧ Fr B σ s ∧ NetAt s (B + 6) (B + 7) (wn A + 1) d ∧ GlAt B s g ∧ RI g.2.2.2
theorem glSet {d : Nat → Int} {g' : Int × Int × Int × Int} {s : Sg} (h : St B wa s A ∧ Fr B σ s ∧ NetAt s (B + 6) (B + 7) (wn A + 1) d) (hg : RI g'.2.2.2) : ∃ s', ((pV 3 s (B + 43) 0 (.int (iI g'.1))).bind fun s4 => (pV 3 s4 (B + 43) 1 (.int (iI g'.2.1))).bind fun s5 => (pV 3 s5 (B + 43) 2 (.int (iI g'.2.2.1))).bind fun s6 => (pV 3 s6 (B + 43) 3 (.int (iI g'.2.2.2))).bind fun s7 => some s7) = some s' ∧ LkW B wa σ A d g' s' := by
  obtain ⟨h1, h2, h3⟩ := h
  have sh : s.2.1 (B + 43) = some (3, 4) := h1.1.sh 43 (by omega)
  have f0 : ∀ (k : Nat) (v : Value) (t : Sg), Fr B t (setF t (B + 43) k v) := fun k v t => Fr.setF (by omega) rfl
  let s1 := setF s (B + 43) 0 (.int (iI g'.1))
  let s2 := setF s1 (B + 43) 1 (.int (iI g'.2.1))
  let s3 := setF s2 (B + 43) 2 (.int (iI g'.2.2.1))
  let s4 := setF s3 (B + 43) 3 (.int (iI g'.2.2.2))
  have p0 : pV 3 s (B + 43) 0 (.int (iI g'.1)) = some s1 := pV_ok sh (by omega)
  have p1 : pV 3 s1 (B + 43) 1 (.int (iI g'.2.1)) = some s2 := pV_ok (show s1.2.1 (B + 43) = some (3, 4) from sh) (by omega)
  have p2 : pV 3 s2 (B + 43) 2 (.int (iI g'.2.2.1)) = some s3 := pV_ok (show s2.2.1 (B + 43) = some (3, 4) from sh) (by omega)
  have p3 : pV 3 s3 (B + 43) 3 (.int (iI g'.2.2.2)) = some s4 := pV_ok (show s3.2.1 (B + 43) = some (3, 4) from sh) (by omega)
  have fr : Fr B s s4 := (((f0 0 _ s).trans (f0 1 _ s1)).trans (f0 2 _ s2)).trans (f0 3 _ s3)
  have far : ∀ a, a ≠ B + 43 → s4.2.2 a = s.2.2 a := fun a ha => by
    show (setF s3 (B + 43) 3 _).2.2 a = _
    rw [setF_ne _ _ _ ha]
    show (setF s2 (B + 43) 2 _).2.2 a = _
    rw [setF_ne _ _ _ ha]
    show (setF s1 (B + 43) 1 _).2.2 a = _
    rw [setF_ne _ _ _ ha]
    show (setF s (B + 43) 0 _).2.2 a = _
    rw [setF_ne _ _ _ ha]
  refine ⟨s4, by simp only [p0, p1, p2, p3, Option.bind_some], ⟨h1.1.fr fr, ?_, h1.2.2⟩, h2.trans fr, ?_, ⟨?_, ?_, ?_, ?_⟩, hg⟩
  · exact RS.but h1.2.1 rfl (fun r _ _ _ _ _ _ _ _ _ => far _ (by omega))
  · obtain ⟨n1, n2, n3, n4, n5, n6⟩ := h3
    exact ⟨n1, n2, n3, by rw [far _ (by omega)]; exact n4, by rw [far _ (by omega)]; exact n5, by rw [far _ (by omega)]; exact n6⟩
  · show (setF s3 (B + 43) 3 _).2.2 (B + 43) 0 = _
    simp [s3, s2, s1, setF_at]
  · show (setF s3 (B + 43) 3 _).2.2 (B + 43) 1 = _
    simp [s3, s2, s1, setF_at]
  · show (setF s3 (B + 43) 3 _).2.2 (B + 43) 2 = _
    simp [s3, s2, s1, setF_at]
  · show (setF s3 (B + 43) 3 _).2.2 (B + 43) 3 = _
    simp [setF_at]
theorem verd_R (X : Nat → Nat → Int) (a b : Nat) (l : Int) : -1 ≤ verd X a b l ∧ verd X a b l ≤ 1 := by
  unfold verd
  split
  · omega
  · split <;> omega
theorem gl_better {d : Nat → Int} {g : Int × Int × Int × Int} {s : Sg} (h : LkW B wa σ A d g s) {v : Int} (hv : RI v) : mX3_isBetter n s (B + 43) (iI v) = some (if g.2.2.2 = -1 ∨ v < g.2.2.2 then 1 else 0, s) := by
  obtain ⟨h1, h2, h3, h4, h5⟩ := h
  have sh : s.2.1 (B + 43) = some (3, 4) := h1.1.sh 43 (by omega)
  unfold mX3_isBetter
  simp only [isO_ok sh, gI_ok sh (show 3 < 4 by omega) h4.2.2.2, Option.bind_some, mX3_isBetter_16]
  by_cases c0 : g.2.2.2 = -1
  · rw [if_pos ((c_eqm h5).mpr c0), if_pos (Or.inl c0)]
  · rw [if_neg (fun q => c0 ((c_eqm h5).mp q))]
    by_cases c1 : v < g.2.2.2
    · rw [if_neg (fun q => by have := (c_le h5 hv).mp q; omega), if_pos (Or.inr c1)]
    · rw [if_pos ((c_le h5 hv).mpr (by omega)), if_neg (fun q => q.elim c0 c1)]
theorem jmax_iI {a b : Int} (ha : RI a) (hb : RI b) : jmax (iI a) (iI b) = iI (max a b) := by
  unfold jmax
  by_cases c : a < b
  · rw [if_pos ((c_lt ha hb).mpr c), show max a b = b by omega]
  · rw [if_neg (fun q => c ((c_lt ha hb).mp q)), show max a b = a by omega]
theorem lea_R (hA : Wf A) {a b : Nat} (ha : a < wn A) (hb : b < wn A) (k : Nat) : -1000 ≤ lea A a b k ∧ lea A a b k ≤ 1000 := by
  have m1 := mad_R A (hA.2.2.1.2 a ha) k
  have m2 := mad_R A (hA.2.2.1.2 b hb) k
  unfold lea
  omega
theorem wei_R (hA : Wf A) {d : Nat → Int} (hd : Bs d) {a b : Nat} (ha : a < wn A) (hb : b < wn A) (k : Nat) : -2000000 ≤ wei A (mat d) a b k ∧ wei A (mat d) a b k ≤ 2000000 := by
  have h8 := hA.2.2.1.1
  have l1 := lea_R hA ha hb k
  have l2 := lea_R hA hb ha k
  have s1 := spW_R hd (w := wn A) (o := a + 1) (u := b + 1) (r := lea A a b k) h8 (by omega)
  have s2 := spW_R hd (w := wn A) (o := b + 1) (u := a + 1) (r := lea A b a k) h8 (by omega)
  unfold wei
  omega
theorem x_lookAtCrossing {d : Nat → Int} {g : Int × Int × Int × Int} {s : Sg} (h : LkW B wa σ A d g s) (hd : Bs d) {a b k : Nat} (ha : a < wn A) (hb : b < wn A) (hk : k < 256) (hbo : both (wk A a) (wk A b) k) (hn : 100000 ≤ n) : ∃ s', mX9_lookAtCrossing n s B (iI a) (iI b) (iI k) = some s' ∧ LkW B wa σ A d (gst A (mat d) a b k g) s' := by
  obtain ⟨h1, h2, h3, h4, h5⟩ := id h
  obtain ⟨hC, hS, hA⟩ := id h1
  have h8 := hA.2.2.1.1
  have rk : RI (k : Int) := RI.sm (by omega) (by omega)
  have wA : isW A (a : Int) := ⟨by omega, by omega⟩
  have wB : isW A (b : Int) := ⟨by omega, by omega⟩
  have l1 := lea_R hA ha hb k
  have l2 := lea_R hA hb ha k
  have e1 : mX9_leadToLieAbove n s B (iI a) (iI b) (iI k) = some (iI (lea A a b k), s) := x_lead hC hA wA wB rk
  have e2 : mX9_leadToLieAbove n s B (iI b) (iI a) (iI k) = some (iI (lea A b a k), s) := x_lead hC hA wB wA rk
  have e3 := x_verdict (n := n) h1 h3 hd (a := a) (b := b) (lead := lea A a b k) (by omega) (by omega) (by omega) (RI.sm (by omega) (by omega))
  have s1 := spW_R hd (w := wn A) (o := a + 1) (u := b + 1) (r := lea A a b k) h8 (by omega)
  have s2 := spW_R hd (w := wn A) (o := b + 1) (u := a + 1) (r := lea A b a k) h8 (by omega)
  have e4 := net_spanWith (n := n) h3 hd h8 (o := a + 1) (u := b + 1) (r := lea A a b k) (by omega) (by omega) (by omega) hn
  have e5 := net_spanWith (n := n) h3 hd h8 (o := b + 1) (u := a + 1) (r := lea A b a k) (by omega) (by omega) (by omega) hn
  have r1 : RI (spW (mat d) (wn A) (a + 1) (b + 1) (lea A a b k)) := RI.sm (by omega) (by omega)
  have r2 : RI (spW (mat d) (wn A) (b + 1) (a + 1) (lea A b a k)) := RI.sm (by omega) (by omega)
  have hw : wei A (mat d) a b k = max (spW (mat d) (wn A) (a + 1) (b + 1) (lea A a b k)) (spW (mat d) (wn A) (b + 1) (a + 1) (lea A b a k)) := rfl
  have rw' : RI (wei A (mat d) a b k) := by rw [hw]; exact RI.sm (by omega) (by omega)
  have rv : RI (verd (mat d) a b (lea A a b k)) := by have := verd_R (mat d) a b (lea A a b k); exact RI.sm (by omega) (by omega)
  have stay : (¬ (verd (mat d) a b (lea A a b k) = -1 ∧ (g.2.2.2 = -1 ∨ wei A (mat d) a b k < g.2.2.2))) → gst A (mat d) a b k g = g := fun q => by
    unfold gst
    rw [if_neg (fun z => q z.2)]
  unfold mX9_lookAtCrossing
  simp only [hC.o, e1, e3, Option.bind_some]
  by_cases c0 : verd (mat d) a b (lea A a b k) = -1
  · rw [if_pos ((c_eqm rv).mpr c0)]
    simp only [hC.r11, hC.r15, mX9_pointOf, Option.bind_some, pt1, e4, gl_better h r1]
    by_cases c1 : g.2.2.2 = -1 ∨ spW (mat d) (wn A) (a + 1) (b + 1) (lea A a b k) < g.2.2.2
    · rw [if_pos c1, if_neg i10]
      simp only [e2, e5, hC.r11, hC.r15, Option.bind_some, jmax_iI r1 r2, ← hw]
      unfold mX3_offer
      have sh : s.2.1 (B + 43) = some (3, 4) := hC.sh 43 (by omega)
      simp only [isO_ok sh, gl_better h rw', Option.bind_some]
      by_cases c2 : g.2.2.2 = -1 ∨ wei A (mat d) a b k < g.2.2.2
      · rw [if_pos c2, if_neg i10]
        have eg : gst A (mat d) a b k g = ((a : Int), (b : Int), (k : Int), wei A (mat d) a b k) := by
          unfold gst
          rw [if_pos ⟨hbo, c0, c2⟩]
        obtain ⟨s', q1, q2⟩ := glSet (g' := ((a : Int), (b : Int), (k : Int), wei A (mat d) a b k)) ⟨h1, h2, h3⟩ rw'
        rw [eg]
        exact ⟨s', by rw [q1]; rfl, q2⟩
      · rw [if_neg c2, if_pos i00, stay (fun q => c2 q.2)]
        exact ⟨s, rfl, h⟩
    · rw [if_neg c1, if_pos i00, stay (fun q => c1 (q.2.elim Or.inl (fun z => Or.inr (by rw [hw] at z; omega))))]
      exact ⟨s, rfl, h⟩
  · rw [if_neg (fun q => c0 ((c_eqm rv).mp q)), stay (fun q => c0 q.1)]
    exact ⟨s, rfl, h⟩
theorem gC_still (X : Nat → Nat → Int) (a b : Nat) (g : Int × Int × Int × Int) (k : Nat) (h : lat (wcell (wk A a)) k (wlast (wk A a)) = -1) : gC A X a b g (k + 1) = gC A X a b g k := by
  show gst A X a b k (gC A X a b g k) = _
  unfold gst
  rw [if_neg (fun q => q.1.1 h)]
theorem x_lookAtPair {d : Nat → Int} {g : Int × Int × Int × Int} {s : Sg} (h : LkW B wa σ A d g s) (hd : Bs d) {a b : Nat} (ha : a < wn A) (hb : b < wn A) (hab : a ≠ b) (hn : 100000 ≤ n) : ∃ s', mX9_lookAtPair n s B (iI a) (iI b) = some s' ∧ LkW B wa σ A d (gC A (mat d) a b g 256) s' := by
  obtain ⟨h1, h2, h3, h4, h5⟩ := id h
  obtain ⟨hC, hS, hA⟩ := id h1
  have h8 := hA.2.2.1.1
  have la := (hA.2.2.1.2 a ha).2.2.2.1
  have ra : RI (a : Int) := RI.sm (by omega) (by omega)
  have rb : RI (b : Int) := RI.sm (by omega) (by omega)
  have hp := plc_few (wcell (wk A a)) 256 (wlast (wk A a))
  have key := loop_inv (body := mX9_lookAtPair_L14 n B (iI a) (iI b) (wa a)) (fun c => ∃ (t : Nat) (f : Int × Int × Int × Int), t ≤ plc (wcell (wk A a)) (wlast (wk A a)) 256 ∧ c.2 = iI t ∧ LkW B wa σ A d f c.1 ∧ ∀ k, plc (wcell (wk A a)) (wlast (wk A a)) k = t → gC A (mat d) a b g k = f) (fun c => plc (wcell (wk A a)) (wlast (wk A a)) 256 - c.2.toNatClampNeg)
    (fun e => LkW B wa σ A d (gC A (mat d) a b g 256) e) ?_ n (s, (0 : Int32)) ⟨0, g, Nat.zero_le _, rfl, h, fun k hk => plc_eq (gC A (mat d) a b g) (gC_still (mat d) a b g) (k := 0) (j := k) hk.symm⟩ (by show plc (wcell (wk A a)) (wlast (wk A a)) 256 - _ < n; omega)
  · obtain ⟨e, q1, q2⟩ := key
    unfold mX9_lookAtPair
    simp only [hC.o, Option.bind_some, x_walkOf hC hA ra, if_pos (show 0 ≤ (a : Int) ∧ (a : Int) < wn A by omega), show ((a : Int)).toNat = a by omega, q1]
    exact ⟨e, rfl, q2⟩
  · rintro ⟨s0, z⟩ ⟨t, f, ht, ez, hL, hc⟩
    have ez : z = iI t := ez
    subst ez
    have hL : LkW B wa σ A d f s0 := hL
    have hCs := hL.1.1
    have hW := hCs.walkAt ha
    have hz : (iI (t : Int)).toNatClampNeg = t := by rw [iI_clamp (by omega) (by omega)]; omega
    have hz1 : (iI ((t + 1 : Nat) : Int)).toNatClampNeg = t + 1 := by rw [iI_clamp (by omega) (by omega)]; omega
    have rt : RI (t : Int) := RI.sm (by omega) (by omega)
    have rp : RI (plc (wcell (wk A a)) (wlast (wk A a)) 256 : Int) := RI.sm (by omega) (by omega)
    have pc : toI (gV 8 s0 (wa a) 5) = some (iI (plc (wcell (wk A a)) (wlast (wk A a)) 256)) := gI_ok hW.1.1 (by omega) hW.2.1.2.2.2.2.2.1
    by_cases c0 : t = plc (wcell (wk A a)) (wlast (wk A a)) 256
    · refine Or.inr ⟨s0, ?_, by rw [hc 256 c0.symm]; exact hL⟩
      simp only [mX9_lookAtPair_L14, pc, Option.bind_some]
      rw [if_pos ((c_le rp rt).mpr (by omega))]
    · obtain ⟨k, k1, k2, k3, k4, k5⟩ := w_place hW (by omega) (show t < plc (wcell (wk A a)) (wlast (wk A a)) 256 by omega)
      have rk : RI (k : Int) := RI.sm (by omega) (by omega)
      have pk1 : plc (wcell (wk A a)) (wlast (wk A a)) (k + 1) = t + 1 := by
        conv => lhs; unfold plc
        rw [if_neg k2, k3]
      have ck : gC A (mat d) a b g (k + 1) = gst A (mat d) a b k f := by
        show gst A (mat d) a b k (gC A (mat d) a b g k) = _
        rw [hc k k3]
      have lev : ∀ j, plc (wcell (wk A a)) (wlast (wk A a)) j = t + 1 → gC A (mat d) a b g j = gst A (mat d) a b k f := fun j hj => by
        rw [← ck]; exact plc_eq (gC A (mat d) a b g) (gC_still (mat d) a b g) (pk1.trans hj.symm)
      have down : plc (wcell (wk A a)) (wlast (wk A a)) 256 - (iI ((t + 1 : Nat) : Int)).toNatClampNeg < plc (wcell (wk A a)) (wlast (wk A a)) 256 - (iI (t : Int)).toNatClampNeg := by rw [hz, hz1]; omega
      have hcr := x_isCrossing (n := n) hCs hA ra rb rk
      have ecr : crs A a b k ↔ both (wk A a) (wk A b) k := by
        constructor
        · rintro ⟨-, ⟨-, q1⟩, ⟨-, q2⟩⟩
          rw [lIn_nat _ k1] at q1 q2
          exact ⟨q1, q2⟩
        · rintro ⟨q1, q2⟩
          exact ⟨by omega, ⟨⟨by omega, by omega⟩, by rw [lIn_nat _ k1]; exact q1⟩, ⟨⟨by omega, by omega⟩, by rw [lIn_nat _ k1]; exact q2⟩⟩
      by_cases c1 : both (wk A a) (wk A b) k
      · obtain ⟨s', q1, q2⟩ := x_lookAtCrossing (n := n) hL hd ha hb k1 c1 hn
        refine Or.inl ⟨(s', iI ((t + 1 : Nat) : Int)), ?_, ⟨t + 1, gst A (mat d) a b k f, by omega, rfl, q2, lev⟩, down⟩
        simp only [mX9_lookAtPair_L14, pc, k4, k5, hcr, Option.bind_some, if_pos (ecr.mpr c1), q1, mX9_lookAtPair_52, pt1]
        rw [if_neg (fun z => by have := (c_le rp rt).mp z; omega), if_neg i10]
      · refine Or.inl ⟨(s0, iI ((t + 1 : Nat) : Int)), ?_, ⟨t + 1, f, by omega, rfl, hL, fun j hj => ?_⟩, down⟩
        · simp only [mX9_lookAtPair_L14, pc, k4, k5, hcr, Option.bind_some, if_neg (fun q => c1 (ecr.mp q)), mX9_lookAtPair_52, pt1]
          rw [if_neg (fun z => by have := (c_le rp rt).mp z; omega), if_pos trivial]
        · rw [lev j hj]
          unfold gst
          rw [if_neg (fun q => c1 q.1)]
theorem gB_low (X : Nat → Nat → Int) (a : Nat) (g : Int × Int × Int × Int) : ∀ b, b ≤ a + 1 → gB A X a g b = g
  | 0, _ => rfl
  | b + 1, h => by
    show (if a < b then gC A X a b (gB A X a g b) 256 else gB A X a g b) = g
    rw [if_neg (by omega), gB_low X a g b (by omega)]
theorem x_lookRow {d : Nat → Int} {g : Int × Int × Int × Int} {s : Sg} (h : LkW B wa σ A d g s) (hd : Bs d) {a : Nat} (ha : a < wn A) (hn : 100000 ≤ n) : ∃ s', loopM (mX9_look_L41 n B (iI a)) n (s, iI ((a + 1 : Nat) : Int)) = some s' ∧ LkW B wa σ A d (gB A (mat d) a g (wn A)) s' := by
  have h8 := h.1.2.2.2.2.1.1
  refine loop_inv (body := mX9_look_L41 n B (iI a)) (fun c => ∃ t : Nat, a < t ∧ t ≤ wn A ∧ c.2 = iI t ∧ LkW B wa σ A d (gB A (mat d) a g t) c.1) (fun c => wn A - c.2.toNatClampNeg) (fun s' => LkW B wa σ A d (gB A (mat d) a g (wn A)) s') ?_ n (s, iI ((a + 1 : Nat) : Int)) ⟨a + 1, by omega, by omega, rfl, by rw [gB_low _ _ _ _ (Nat.le_refl _)]; exact h⟩ (by show wn A - _ < n; omega)
  rintro ⟨s0, z⟩ ⟨t, t1, t2, ez, hL⟩
  have ez : z = iI t := ez
  subst ez
  have hL : LkW B wa σ A d (gB A (mat d) a g t) s0 := hL
  have hz : (iI (t : Int)).toNatClampNeg = t := by rw [iI_clamp (by omega) (by omega)]; omega
  have hz1 : (iI ((t + 1 : Nat) : Int)).toNatClampNeg = t + 1 := by rw [iI_clamp (by omega) (by omega)]; omega
  have rt : RI (t : Int) := RI.sm (by omega) (by omega)
  have rw' : RI (wn A : Int) := RI.sm (by omega) (by omega)
  by_cases c0 : t = wn A
  · refine Or.inr ⟨s0, ?_, by rw [← c0]; exact hL⟩
    simp only [mX9_look_L41, hL.1.1.qwn, Option.bind_some]
    rw [if_pos ((c_le rw' rt).mpr (by omega))]
  · obtain ⟨s', q1, q2⟩ := x_lookAtPair (n := n) hL hd ha (show t < wn A by omega) (by omega) hn
    refine Or.inl ⟨(s', iI ((t + 1 : Nat) : Int)), ?_, ⟨t + 1, by omega, by omega, rfl, ?_⟩, ?_⟩
    · simp only [mX9_look_L41, hL.1.1.qwn, Option.bind_some, q1, pt1]
      rw [if_neg (fun q => by have := (c_le rw' rt).mp q; omega)]
    · show LkW B wa σ A d (if a < t then gC A (mat d) a t (gB A (mat d) a g t) 256 else gB A (mat d) a g t) s'
      rw [if_pos t1]; exact q2
    · show wn A - (iI ((t + 1 : Nat) : Int)).toNatClampNeg < wn A - (iI (t : Int)).toNatClampNeg
      rw [hz, hz1]; omega
theorem x_lookLoop {d : Nat → Int} {s : Sg} (h : LkW B wa σ A d (-1, -1, -1, -1) s) (hd : Bs d) (hn : 100000 ≤ n) : ∃ s', loopM (mX9_look_L28 n B) n (s, (0 : Int32)) = some s' ∧ LkW B wa σ A d (gA A (mat d) (wn A)) s' := by
  have h8 := h.1.2.2.2.2.1.1
  refine loop_inv (body := mX9_look_L28 n B) (fun c => ∃ t : Nat, t ≤ wn A ∧ c.2 = iI t ∧ LkW B wa σ A d (gA A (mat d) t) c.1) (fun c => wn A - c.2.toNatClampNeg) (fun s' => LkW B wa σ A d (gA A (mat d) (wn A)) s') ?_ n (s, (0 : Int32)) ⟨0, by omega, rfl, h⟩ (by show wn A - _ < n; omega)
  rintro ⟨s0, z⟩ ⟨t, t2, ez, hL⟩
  have ez : z = iI t := ez
  subst ez
  have hL : LkW B wa σ A d (gA A (mat d) t) s0 := hL
  have hz : (iI (t : Int)).toNatClampNeg = t := by rw [iI_clamp (by omega) (by omega)]; omega
  have hz1 : (iI ((t + 1 : Nat) : Int)).toNatClampNeg = t + 1 := by rw [iI_clamp (by omega) (by omega)]; omega
  have rt : RI (t : Int) := RI.sm (by omega) (by omega)
  have rw' : RI (wn A : Int) := RI.sm (by omega) (by omega)
  by_cases c0 : t = wn A
  · refine Or.inr ⟨s0, ?_, by rw [← c0]; exact hL⟩
    simp only [mX9_look_L28, hL.1.1.qwn, Option.bind_some]
    rw [if_pos ((c_le rw' rt).mpr (by omega))]
  · obtain ⟨s', q1, q2⟩ := x_lookRow (n := n) hL hd (show t < wn A by omega) hn
    refine Or.inl ⟨(s', iI ((t + 1 : Nat) : Int)), ?_, ⟨t + 1, by omega, rfl, q2⟩, ?_⟩
    · simp only [mX9_look_L28, hL.1.1.qwn, Option.bind_some, nm, pt1, q1]
      rw [if_neg (fun q => by have := (c_le rw' rt).mp q; omega)]
    · show wn A - (iI ((t + 1 : Nat) : Int)).toNatClampNeg < wn A - (iI (t : Int)).toNatClampNeg
      rw [hz, hz1]; omega
def pick (g : Int × Int × Int × Int) (what : Int) : Int := if what = 0 then g.1 else if what = 1 then g.2.1 else if what = 2 then g.2.2.1 else g.2.2.2
def FLook (A : AS) (what : Int) (X : Nat → Nat → Int) (r : Int) : Prop := r = pick (gA A X (wn A)) what
theorem x_look (h : St B wa σ A) (x : Int32) {what : Int} (hq : RI what) (hn : 100000 ≤ n) : ∃ r σ', mX9_look n σ B x (iI what) = some (iI r, σ') ∧ St B wa σ' A ∧ Fr B σ σ' ∧ Two (0 ≤ what ∧ what ≤ 3) (-1) (Qry A x (-1) (FLook A what)) r := by
  obtain ⟨hC, hS, hA⟩ := id h
  have h8 := hA.2.2.1.1
  unfold mX9_look
  simp only [hC.o, Option.bind_some]
  by_cases c0 : what < 0
  · rw [if_pos ((c_lt0 hq).mpr c0)]
    exact ⟨-1, σ, rfl, h, Fr.refl B σ, Or.inl ⟨by omega, rfl⟩⟩
  · rw [if_neg (fun q => c0 ((c_lt0 hq).mp q))]
    by_cases c1 : 3 < what
    · rw [if_pos ((c_Llt 3 (by omega) hq).mpr c1)]
      exact ⟨-1, σ, rfl, h, Fr.refl B σ, Or.inl ⟨by omega, rfl⟩⟩
    · rw [if_neg (fun q => c1 ((c_Llt 3 (by omega) hq).mp q))]
      suffices hh : ∃ r σ', _ ∧ St B wa σ' A ∧ Fr B σ σ' ∧ Qry A x (-1) (FLook A what) r by
        obtain ⟨r, σ', q1, q2, q3, q4⟩ := hh
        exact ⟨r, σ', q1, q2, q3, Or.inr ⟨by omega, q4⟩⟩
      refine qry_step (n := n) h x hn (no := -1) (F := FLook A what) (fun s => rfl) (fun d p e hN hB hd => ?_)
      have hNd := dn_net hC (d := d) hN
      have hSt := h.dn hd
      have hC' := hSt.1
      have sh : (dn B σ A d).2.1 (B + 43) = some (3, 4) := hC'.sh 43 (by omega)
      simp only [if_neg i10, hC'.r15, Option.bind_some]
      -- the glance is cleared
      have clear : ∃ s', mX3_clear n (dn B σ A d) (B + 43) = some s' ∧ LkW B wa σ A d (-1, -1, -1, -1) s' := by
        unfold mX3_clear
        rw [isO_ok sh]
        exact glSet (g' := (-1, -1, -1, -1)) ⟨hSt, dn_fr d, hNd⟩ (show RI (-1) by unfold RI; omega)
      obtain ⟨s5, q1, q2⟩ := clear
      have main := x_lookLoop (n := n) q2 hd hn
      obtain ⟨s12, q3, q4⟩ := main
      simp only [q1, q3, Option.bind_some]
      obtain ⟨k1, k2, k3, ⟨k4, k5, k6, k7⟩, k8⟩ := id q4
      have sh12 : s12.2.1 (B + 43) = some (3, 4) := k1.1.sh 43 (by omega)
      simp only [k1.1.r15, gI_ok sh12 (show 0 < 4 by omega) k4, gI_ok sh12 (show 1 < 4 by omega) k5, gI_ok sh12 (show 2 < 4 by omega) k6, gI_ok sh12 (show 3 < 4 by omega) k7, Option.bind_some]
      refine ⟨pick (gA A (mat d) (wn A)) what, s12, ?_, k1, k2, rfl⟩
      unfold pick
      by_cases w0 : what = 0
      · rw [if_pos ((c_eq0 hq).mpr w0), if_pos w0]
      · rw [if_neg (fun q => w0 ((c_eq0 hq).mp q)), if_neg w0]
        by_cases w1 : what = 1
        · rw [if_pos ((c_eqL 1 (by omega) hq).mpr w1), if_pos w1]
        · rw [if_neg (fun q => w1 ((c_eqL 1 (by omega) hq).mp q)), if_neg w1]
          by_cases w2 : what = 2
          · rw [if_pos ((c_eqL 2 (by omega) hq).mpr w2), if_pos w2]
          · rw [if_neg (fun q => w2 ((c_eqL 2 (by omega) hq).mp q)), if_neg w2]
end X45
