/-! ===== the reference's net: begin, lay, close ===== -/
def setR (e : Nat → Int → Int) (r : Nat) (d : Int → Int) : Nat → Int → Int := fun q => if q = r then d else e q
theorem setR_same (e : Nat → Int → Int) (r : Nat) (d : Int → Int) : setR e r d r = d := by unfold setR; rw [if_pos rfl]
theorem setR_ups (e : Nat → Int → Int) (r : Nat) (d : Int → Int) (z v : Int) : ups (setR e r d) r z v = setR e r (upj d z v) := by
  funext q
  unfold ups setR
  by_cases c : q = r
  · rw [if_pos c, if_pos rfl, if_pos c]
  · rw [if_neg c, if_neg c, if_neg c]
theorem setR_setR (e : Nat → Int → Int) (r : Nat) (d d' : Int → Int) : setR (setR e r d) r d' = setR e r d' := by
  funext q
  unfold setR
  by_cases c : q = r
  · rw [if_pos c, if_pos c]
  · rw [if_neg c, if_neg c, if_neg c]
theorem Sc.r {f : Nat → Int} {e : Nat → Int → Int} (r : Nat) (d : Int → Int) (hr : ¬ (r = 1 ∨ (4 ≤ r ∧ r ≤ 14) ∨ r = 17)) : Sc f e f (setR e r d) := ⟨fun _ _ => rfl, fun j hj => by unfold setR; rw [if_neg (by omega)]⟩
/-- an array of 81 as a matrix -/
def dX (d0 : Int → Int) (X : Nat → Nat → Int) : Int → Int := fun z => if 0 ≤ z ∧ z < 81 then X (z / 9).toNat (z % 9).toNat else d0 z
theorem dX_at (d0 : Int → Int) (X : Nat → Nat → Int) {p q : Nat} (hp : p < 9) (hq : q < 9) : dX d0 X (9 * (p : Int) + q) = X p q := by
  unfold dX
  rw [if_pos (by omega), show ((9 * (p : Int) + q) / 9).toNat = p by omega, show ((9 * (p : Int) + q) % 9).toNat = q by omega]
theorem dX_up (d0 : Int → Int) (X : Nat → Nat → Int) {p q : Nat} (hp : p < 9) (hq : q < 9) (v : Int) : upj (dX d0 X) (9 * (p : Int) + q) v = dX d0 (fun i j => if i = p ∧ j = q then v else X i j) := by
  funext z
  unfold upj dX
  by_cases c : z = 9 * (p : Int) + q
  · rw [if_pos c, if_pos (by omega)]
    show v = if (z / 9).toNat = p ∧ (z % 9).toNat = q then v else X (z / 9).toNat (z % 9).toNat
    rw [if_pos (by omega)]
  · rw [if_neg c]
    by_cases c2 : 0 ≤ z ∧ z < 81
    · rw [if_pos c2, if_pos c2]
      show X (z / 9).toNat (z % 9).toNat = if (z / 9).toNat = p ∧ (z % 9).toNat = q then v else X (z / 9).toNat (z % 9).toNat
      rw [if_neg (by omega)]
    · rw [if_neg c2, if_neg c2]
theorem dX_id (d : Int → Int) : dX d (fun i j => d (9 * (i : Int) + j)) = d := by
  funext z
  unfold dX
  by_cases c : 0 ≤ z ∧ z < 81
  · rw [if_pos c]
    show d (9 * (((z / 9).toNat : Nat) : Int) + ((z % 9).toNat : Nat)) = d z
    congr 1
    omega
  · rw [if_neg c]
/-- the reference's world with a matrix in its net -/
abbrev MX (M : Nat) (σ : Sg) (f : Nat → Int) (e : Nat → Int → Int) (X : Nat → Nat → Int) : Sg := MW M σ f (setR e 15 (dX (e 15) X))
def mx (e : Nat → Int → Int) : Nat → Nat → Int := fun i j => e 15 (9 * (i : Int) + j)
theorem MX_id (M : Nat) (σ : Sg) (f : Nat → Int) (e : Nat → Int → Int) : MX M σ f e (mx e) = MW M σ f e := by
  have h : setR e 15 (dX (e 15) (mx e)) = e := by
    funext q
    unfold setR
    by_cases c : q = 15
    · rw [if_pos c, c]; exact dX_id (e 15)
    · rw [if_neg c]
  unfold MX
  rw [h]
theorem MX_X (M : Nat) (σ : Sg) (f : Nat → Int) (e : Nat → Int → Int) {X X' : Nat → Nat → Int} (h : ∀ i j, i < 9 → j < 9 → X i j = X' i j) : MX M σ f e X = MX M σ f e X' := by
  have h : dX (e 15) X = dX (e 15) X' := by
    funext z
    unfold dX
    by_cases c : 0 ≤ z ∧ z < 81
    · rw [if_pos c, if_pos c]; exact h _ _ (by omega) (by omega)
    · rw [if_neg c, if_neg c]
  unfold MX
  rw [h]
section X57
variable {M n : Nat} {σ : Sg} {A : AS} {f : Nat → Int} {e : Nat → Int → Int} {X : Nat → Nat → Int}
theorem MH.mx (h : MH A f e) (X : Nat → Nat → Int) : MH A f (setR e 15 (dX (e 15) X)) := h.sc (Sc.r 15 _ (by omega))
theorem m_least (hS : Msh M σ) {p q : Nat} {v : Int} (hp : p < 9) (hq : q < 9) (hX : -2000000000 ≤ X p q ∧ X p q ≤ 2000000000) (hv : -2000000000 ≤ v ∧ v ≤ 2000000000) : mX10_least n (MX M σ f e X) M (iI p) (iI q) (iI v) = some (MX M σ f e (umx X p q v)) := by
  have W := mAll hS
  unfold mX10_least
  simp (disch := omega) only [W, Option.bind_some, iL, iI_mul, iI_add, setR_same, dX_at (e 15) X hp hq]
  rw [jmax_iI (RI.sm hX.1 hX.2) (RI.sm hv.1 hv.2)]
  simp (disch := omega) only [W, Option.bind_some, setR_ups, dX_up (e 15) X hp hq]
  rfl
/-- the matrix of a beginning: day, walks -/
def bgX (dy : Int) (w : Nat) : Nat → Nat → Int := fun i j => if i = j then 0 else if i = 8 ∧ j < w then 0 else if j = 8 ∧ i < w then -dy else -1000000
theorem m_begin (hS : Msh M σ) (h : MH A f e) (hA : Wf A) (hn : 100000 ≤ n) : mX10_begin n (MW M σ f e) M = some (MX M σ f e (bgX (day A) (wn A))) := by
  have W := mAll hS
  have h8 := hA.2.2.1.1
  have hd := hA.1
  have L1 : loopM (mX10_begin_L2 n M) n (MW M σ f e, iI 0) = some (MX M σ f e (bgX (day A) 0)) := by
    have e0 : (MW M σ f e, iI 0) = (fun t : Nat => (MX M σ f e (fun i j => if 9 * i + j < t then bgX (day A) 0 i j else mx e i j), iI (t : Int))) 0 := by
      show _ = (MX M σ f e (fun i j => if 9 * i + j < 0 then bgX (day A) 0 i j else mx e i j), iI 0)
      rw [MX_X M σ f e (X' := mx e) (fun i j _ _ => by rw [if_neg (by omega)]), MX_id]
    rw [e0]
    refine loop_run (fun t : Nat => (MX M σ f e (fun i j => if 9 * i + j < t then bgX (day A) 0 i j else mx e i j), iI (t : Int))) 81 0 (fun t _ ht => ?_) ?_ n (by omega)
    · have r := pk_rem (a := t) (d := 9) (by omega) (by omega) (by omega)
      have d := pk_div (a := t) (d := 9) (by omega) (by omega) (by omega)
      have r1 : nI t = iI (t : Int) := iI_nat t
      have r2 : nI 9 = iI 9 := rfl
      have r3 : nI (t % 9) = iI ((t % 9 : Nat) : Int) := iI_nat _
      have r4 : nI (t / 9) = iI ((t / 9 : Nat) : Int) := iI_nat _
      rw [r1, r2, r3] at r
      rw [r1, r2, r4] at d
      rw [d] at r
      have ht9 : (t : Int) = 9 * ((t / 9 : Nat) : Int) + ((t % 9 : Nat) : Int) := by omega
      have key : ∀ v : Int, v = bgX (day A) 0 (t / 9) (t % 9) → mX10_begin_30 n (MX M σ f e (fun i j => if 9 * i + j < t then bgX (day A) 0 i j else mx e i j)) (iI v) (iI (t : Int)) (M + 15) M (iI (t : Int)) = some (Sum.inl (MX M σ f e (fun i j => if 9 * i + j < t + 1 then bgX (day A) 0 i j else mx e i j), iI ((t + 1 : Nat) : Int))) := by
        intro v hv
        unfold mX10_begin_30
        simp (disch := omega) only [W, Option.bind_some, iL, iI_add, setR_ups]
        rw [show upj (dX (e 15) (fun i j => if 9 * i + j < t then bgX (day A) 0 i j else mx e i j)) (t : Int) v = upj (dX (e 15) (fun i j => if 9 * i + j < t then bgX (day A) 0 i j else mx e i j)) (9 * ((t / 9 : Nat) : Int) + ((t % 9 : Nat) : Int)) v by rw [← ht9], dX_up (e 15) _ (show t / 9 < 9 by omega) (show t % 9 < 9 by omega)]
        have e1 : MW M σ f (setR e 15 (dX (e 15) fun i j => if i = t / 9 ∧ j = t % 9 then v else if 9 * i + j < t then bgX (day A) 0 i j else mx e i j)) = MX M σ f e (fun i j => if 9 * i + j < t + 1 then bgX (day A) 0 i j else mx e i j) := by
          refine MX_X M σ f e (fun i j hi hj => ?_)
          by_cases c : i = t / 9 ∧ j = t % 9
          · rw [if_pos c, if_pos (by omega), hv, c.1, c.2]
          · rw [if_neg c]
            by_cases c2 : 9 * i + j < t
            · rw [if_pos c2, if_pos (by omega)]
            · rw [if_neg c2, if_neg (by omega)]
        rw [e1]; rfl
      simp (disch := omega) only [mX10_begin_L2, iL, iI_neg, iI_le, W, Option.bind_some, d, r, iI_eq]
      rw [if_neg (by omega)]
      by_cases c : t / 9 = t % 9
      · rw [if_pos (by omega), key 0 (by unfold bgX; rw [if_pos c])]
      · rw [if_neg (by omega), key (-1000000) (by unfold bgX; rw [if_neg c, if_neg (by omega), if_neg (by omega)])]
    · simp (disch := omega) only [Nat.zero_add, mX10_begin_L2, iL, iI_le]
      rw [if_pos (by omega)]
      rw [MX_X M σ f e (X' := bgX (day A) 0) (fun i j hi hj => by rw [if_pos (by omega)])]
  have L2 : loopM (mX10_begin_L39 n M) n (MX M σ f e (bgX (day A) 0), iI 0) = some (MX M σ f e (bgX (day A) (wn A))) := by
    have e0 : (MX M σ f e (bgX (day A) 0), iI 0) = (fun t : Nat => (MX M σ f e (bgX (day A) t), iI (t : Int))) 0 := rfl
    rw [e0]
    refine loop_run (fun t : Nat => (MX M σ f e (bgX (day A) t), iI (t : Int))) (wn A) 0 (fun t _ ht => ?_) ?_ n (by omega)
    · have b1 : ∀ i j, -1000000 ≤ bgX (day A) t i j ∧ bgX (day A) t i j ≤ 0 := fun i j => by
        unfold bgX
        repeat' split
        all_goals omega
      have b2 : ∀ i j, -1000000 ≤ umx (bgX (day A) t) 8 t 0 i j ∧ umx (bgX (day A) t) 8 t 0 i j ≤ 0 := fun i j => by
        unfold umx
        have := b1 i j
        have := b1 8 t
        split <;> omega
      have k1 := m_least (n := n) (f := f) (e := e) hS (p := 8) (q := t) (v := 0) (X := bgX (day A) t) (by omega) (by omega) (by have := b1 8 t; omega) (by omega)
      have k2 := m_least (n := n) (f := f) (e := e) hS (p := t) (q := 8) (v := -(day A : Int)) (X := umx (bgX (day A) t) 8 t 0) (by omega) (by omega) (by have := b2 t 8; omega) (by omega)
      have e8 : iI ((8 : Nat) : Int) = iI 8 := rfl
      rw [e8] at k1 k2
      simp (disch := omega) only [mX10_begin_L39, W, Option.bind_some, h.2.2.1.1, iI_le, iL, k1, h.1.2.2.1, iI_neg, k2, iI_add]
      rw [if_neg (by omega)]
      rw [MX_X M σ f e (X' := bgX (day A) (t + 1)) (fun i j hi hj => ?_)]
      · rfl
      · unfold umx bgX
        by_cases c : i = j
        · have c1 : ¬ (i = t ∧ j = 8) := by omega
          have c2 : ¬ (i = 8 ∧ j = t) := by omega
          rw [if_neg c1, if_neg c2, if_pos c, if_pos c]
        · by_cases c1 : i = t ∧ j = 8
          · obtain ⟨rfl, rfl⟩ := c1
            rw [if_pos ⟨rfl, rfl⟩, if_neg (show ¬ (i = 8 ∧ 8 = i) by omega), if_neg c, if_neg (show ¬ (i = 8 ∧ 8 < i) by omega), if_neg (show ¬ (8 = 8 ∧ i < i) by omega), if_neg c, if_neg (show ¬ (i = 8 ∧ 8 < i + 1) by omega), if_pos (show 8 = 8 ∧ i < i + 1 by omega)]
            omega
          · rw [if_neg c1]
            by_cases c2 : i = 8 ∧ j = t
            · obtain ⟨rfl, rfl⟩ := c2
              rw [if_pos ⟨rfl, rfl⟩, if_neg (show ¬ (8 = j) by omega), if_neg (show ¬ (8 = 8 ∧ j < j) by omega), if_neg (show ¬ (j = 8 ∧ 8 < j) by omega), if_neg (show ¬ (8 = j) by omega), if_pos (show 8 = 8 ∧ j < j + 1 by omega)]
              omega
            · rw [if_neg c2, if_neg c, if_neg c]
              by_cases c3 : i = 8 ∧ j < t
              · rw [if_pos c3, if_pos (show i = 8 ∧ j < t + 1 by omega)]
              · rw [if_neg c3, if_neg (show ¬ (i = 8 ∧ j < t + 1) by omega)]
                by_cases c4 : j = 8 ∧ i < t
                · rw [if_pos c4, if_pos (show j = 8 ∧ i < t + 1 by omega)]
                · rw [if_neg c4, if_neg (show ¬ (j = 8 ∧ i < t + 1) by omega)]
    · simp (disch := omega) only [Nat.zero_add, mX10_begin_L39, W, Option.bind_some, h.2.2.1.1, iI_le]
      rw [if_pos (by omega)]
  unfold mX10_begin
  simp only [W, Option.bind_some, iL, L1, L2]
theorem bgX_lay (hA : Wf A) : Lay A (frR (day A)) (bgX (day A) (wn A)) := by
  have h8 := hA.2.2.1.1
  have hd := hA.1
  refine ⟨fun p q v hp hq hr hv => ?_, fun p hp => by unfold bgX; rw [if_pos rfl], fun p q hp hq hpq => ?_⟩
  · have e1 := ex_pn hA hp
    have e2 := ex_pn hA hq
    unfold bgX
    rcases hr with ⟨h1, h2⟩ | ⟨h1, h2, h3⟩
    · have : p = 8 := by unfold pn at h1; split at h1 <;> omega
      by_cases c : p = q
      · rw [if_pos c]; omega
      · rw [if_neg c, if_pos (by rcases hq with hq | hq <;> omega)]; omega
    · have : q = 8 := by unfold pn at h1; split at h1 <;> omega
      have : p ≠ 8 := by intro q; unfold pn at h2; rw [if_pos q] at h2; omega
      rw [if_neg (by omega), if_neg (by omega), if_pos (by rcases hp with hp | hp <;> omega)]; omega
  · unfold bgX
    rw [if_neg hpq]
    by_cases c : p = 8 ∧ q < wn A
    · rw [if_pos c]
      exact Or.inr ⟨Or.inr c.1, Or.inl c.2, Or.inl ⟨by unfold pn; rw [if_pos c.1], rfl⟩, by omega, by omega⟩
    · rw [if_neg c]
      by_cases c2 : q = 8 ∧ p < wn A
      · rw [if_pos c2]
        exact Or.inr ⟨Or.inl c2.2, Or.inr c2.1, Or.inr ⟨by unfold pn; rw [if_pos c2.1], by unfold pn; rw [if_neg (by omega)]; omega, rfl⟩, by omega, by omega⟩
      · rw [if_neg c2]
        exact Or.inl rfl
theorem Lay.R {R : Nat → Nat → Int → Prop} (h : Lay A R X) {p q : Nat} (hp : p < 9) (hq : q < 9) : -1000000 ≤ X p q ∧ X p q ≤ 6000 := by
  by_cases c : p = q
  · rw [c, h.2.1 q hq]; omega
  · rcases h.2.2 p q hp hq c with h1 | ⟨-, -, -, h1⟩ <;> omega
end X57
