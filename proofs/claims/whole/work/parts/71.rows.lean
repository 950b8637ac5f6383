/-! ===== rows in which starts may rise ===== -/
def ordR (A : AS) (S : Nat) (p : Nat → Nat) (k : Nat) : Nat → Nat → Int → Prop := fun i j v => conR A S (fn A) i j v ∨ ∃ t, t + 1 < k ∧ i = p t + 1 ∧ j = p (t + 1) + 1 ∧ v = 1
def feas (A : AS) (S : Nat) (p : Nat → Nat) (k : Nat) : Prop := ∃ Y, CM (wn A + 1) (ordR A S p k) Y
def numP (p : Nat → Nat) : Nat → Nat
  | 0 => 0
  | k + 1 => 8 * numP p k + p k
def setP (p : Nat → Nat) (k w : Nat) : Nat → Nat := fun t => if t = k then w else p t
def usd (p : Nat → Nat) (k w : Nat) : Prop := ∃ t, t < k ∧ p t = w
/-- a row is at its end: how many, the wanted one -/
noncomputable def lf (A : AS) (S : Nat) (wt : Int) (p : Nat → Nat) (st : Nat × Int) : Nat × Int := @ite _ (feas A S p (wn A)) (Classical.propDecidable _) (st.1 + 1, if (st.1 : Int) = wt then (numP p (wn A) : Int) else st.2) st
def oF (g : Nat → Nat × Int → Nat × Int) : Nat → Nat × Int → Nat × Int
  | 0, st => st
  | m + 1, st => g m (oF g m st)
noncomputable def oG (p : Nat → Nat) (k : Nat) (h : (Nat → Nat) → Nat × Int → Nat × Int) (w : Nat) (st : Nat × Int) : Nat × Int := @ite _ (usd p k w) (Classical.propDecidable _) st (h (setP p k w) st)
/-- all rows that begin so, by rising numbers -/
noncomputable def oE (A : AS) (S : Nat) (wt : Int) : Nat → Nat → (Nat → Nat) → Nat × Int → Nat × Int
  | 0, _, p, st => lf A S wt p st
  | r + 1, k, p, st => oF (oG p k (fun q s => oE A S wt r (k + 1) q s)) (wn A) st
section X71
variable {A : AS} {S : Nat} {wt : Int}
theorem lf_yes {p : Nat → Nat} (h : feas A S p (wn A)) (st : Nat × Int) : lf A S wt p st = (st.1 + 1, if (st.1 : Int) = wt then (numP p (wn A) : Int) else st.2) := by
  unfold lf
  exact @if_pos _ (Classical.propDecidable _) h _ _ _
theorem lf_no {p : Nat → Nat} (h : ¬ feas A S p (wn A)) (st : Nat × Int) : lf A S wt p st = st := by
  unfold lf
  exact @if_neg _ (Classical.propDecidable _) h _ _ _
theorem oG_used {p : Nat → Nat} {k w : Nat} {h : (Nat → Nat) → Nat × Int → Nat × Int} (u : usd p k w) (st : Nat × Int) : oG p k h w st = st := by
  unfold oG
  exact @if_pos _ (Classical.propDecidable _) u _ _ _
theorem oG_free {p : Nat → Nat} {k w : Nat} {h : (Nat → Nat) → Nat × Int → Nat × Int} (u : ¬ usd p k w) (st : Nat × Int) : oG p k h w st = h (setP p k w) st := by
  unfold oG
  exact @if_neg _ (Classical.propDecidable _) u _ _ _
theorem oG_or {p : Nat → Nat} {k : Nat} {h : (Nat → Nat) → Nat × Int → Nat × Int} (w : Nat) (st : Nat × Int) : oG p k h w st = st ∨ oG p k h w st = h (setP p k w) st := by
  rcases Classical.em (usd p k w) with u | u
  · exact Or.inl (oG_used u st)
  · exact Or.inr (oG_free u st)
theorem numP_congr {p q : Nat → Nat} : ∀ k, (∀ t, t < k → p t = q t) → numP p k = numP q k
  | 0, _ => rfl
  | k + 1, h => by
    unfold numP
    rw [h k (by omega), numP_congr k (fun t ht => h t (by omega))]
theorem setP_low {p : Nat → Nat} {k w t : Nat} (h : t < k) : setP p k w t = p t := by
  unfold setP
  rw [if_neg (by omega)]
theorem setP_at {p : Nat → Nat} {k w : Nat} : setP p k w k = w := by
  unfold setP
  rw [if_pos rfl]
theorem numP_set {p : Nat → Nat} {k w : Nat} : numP (setP p k w) (k + 1) = 8 * numP p k + w := by
  show 8 * numP (setP p k w) k + setP p k w k = _
  rw [setP_at, numP_congr (q := p) k (fun t ht => setP_low ht)]
theorem numP_lt {p : Nat → Nat} : ∀ k, (∀ t, t < k → p t < 8) → numP p k < 8 ^ k
  | 0, _ => by unfold numP; omega
  | k + 1, h => by
    have := numP_lt k (fun t ht => h t (by omega))
    have := h k (by omega)
    unfold numP
    rw [Nat.pow_succ]
    omega
theorem pow8 {k : Nat} (h : k ≤ 6) : 8 ^ k ≤ 262144 := by
  rcases (show k = 0 ∨ k = 1 ∨ k = 2 ∨ k = 3 ∨ k = 4 ∨ k = 5 ∨ k = 6 by omega) with rfl | rfl | rfl | rfl | rfl | rfl | rfl <;> decide
theorem feas_congr {p q : Nat → Nat} {k : Nat} (h : ∀ t, t < k → p t = q t) (hf : feas A S p k) : feas A S q k := by
  obtain ⟨Y, hY⟩ := hf
  refine ⟨Y, hY.mono (fun i j v _ _ hr => ?_)⟩
  rcases hr with hr | ⟨t, t1, t2, t3, t4⟩
  · exact Or.inl hr
  · exact Or.inr ⟨t, t1, by rw [h t (by omega)]; exact t2, by rw [h (t + 1) (by omega)]; exact t3, t4⟩
theorem feas_mono {p : Nat → Nat} {k m : Nat} (h : k ≤ m) (hf : feas A S p m) : feas A S p k := by
  obtain ⟨Y, hY⟩ := hf
  refine ⟨Y, hY.mono (fun i j v _ _ hr => ?_)⟩
  rcases hr with hr | ⟨t, t1, t2⟩
  · exact Or.inl hr
  · exact Or.inr ⟨t, by omega, t2⟩
theorem oF_same {g : Nat → Nat × Int → Nat × Int} {st : Nat × Int} : ∀ m, (∀ w, w < m → g w st = st) → oF g m st = st
  | 0, _ => rfl
  | m + 1, h => by
    unfold oF
    rw [oF_same m (fun w hw => h w (by omega))]
    exact h m (by omega)
/-- what can not begin so adds nothing -/
theorem oE_inf : ∀ (r k : Nat) (p : Nat → Nat) (st : Nat × Int), k + r = wn A → ¬ feas A S p k → oE A S wt r k p st = st
  | 0, k, p, st, hk, hf => by
    unfold oE
    rw [show k = wn A by omega] at hf
    exact lf_no hf st
  | r + 1, k, p, st, hk, hf => by
    unfold oE
    refine oF_same _ (fun w hw => ?_)
    rcases oG_or (p := p) (k := k) (h := fun q s => oE A S wt r (k + 1) q s) w st with q | q
    · exact q
    · rw [q]
      exact oE_inf r (k + 1) _ st (by omega) (fun q2 => hf (feas_congr (fun t ht => setP_low ht) (feas_mono (by omega) q2)))
theorem oF_P {g : Nat → Nat × Int → Nat × Int} (P : Nat × Int → Prop) {st : Nat × Int} (h0 : P st) : ∀ m, (∀ w st, w < m → P st → P (g w st)) → P (oF g m st)
  | 0, _ => h0
  | m + 1, h => by
    unfold oF
    exact h m _ (by omega) (oF_P P h0 m (fun w st hw => h w st (by omega)))
/-- what is found stays found -/
theorem oE_found : ∀ (r k : Nat) (p : Nat → Nat) (st : Nat × Int) (v : Int), st.2 = v → wt < st.1 → (oE A S wt r k p st).2 = v ∧ wt < (oE A S wt r k p st).1
  | 0, k, p, st, v, h1, h2 => by
    unfold oE
    rcases Classical.em (feas A S p (wn A)) with q | q
    · rw [lf_yes q, if_neg (by omega)]
      exact ⟨h1, by show wt < ((st.1 + 1 : Nat) : Int); omega⟩
    · rw [lf_no q]
      exact ⟨h1, h2⟩
  | r + 1, k, p, st, v, h1, h2 => by
    unfold oE
    refine oF_P (fun st => st.2 = v ∧ wt < st.1) ⟨h1, h2⟩ _ (fun w st hw q => ?_)
    rcases oG_or (p := p) (k := k) (h := fun q s => oE A S wt r (k + 1) q s) w st with z | z
    · rw [z]; exact q
    · rw [z]; exact oE_found r (k + 1) _ st v q.1 q.2
/-- found numbers are small -/
theorem oE_R (h6 : wn A ≤ 6) : ∀ (r k : Nat) (p : Nat → Nat) (st : Nat × Int), k + r = wn A → (∀ t, t < k → p t < wn A) → (-1 ≤ st.2 ∧ st.2 ≤ 300000) → (-1 ≤ (oE A S wt r k p st).2 ∧ (oE A S wt r k p st).2 ≤ 300000)
  | 0, k, p, st, hk, hp, h => by
    unfold oE
    rcases Classical.em (feas A S p (wn A)) with q | q
    · rw [lf_yes q]
      have a := numP_lt (p := p) (wn A) (fun t ht => by have := hp t (by omega); omega)
      have b := pow8 h6
      show -1 ≤ (if (st.1 : Int) = wt then (numP p (wn A) : Int) else st.2) ∧ (if (st.1 : Int) = wt then (numP p (wn A) : Int) else st.2) ≤ 300000
      split <;> omega
    · rw [lf_no q]; exact h
  | r + 1, k, p, st, hk, hp, h => by
    unfold oE
    refine oF_P (fun st => -1 ≤ st.2 ∧ st.2 ≤ 300000) h _ (fun w st hw q => ?_)
    rcases oG_or (p := p) (k := k) (h := fun q s => oE A S wt r (k + 1) q s) w st with z | z
    · rw [z]; exact q
    · rw [z]
      refine oE_R h6 r (k + 1) _ st (by omega) (fun t ht => ?_) q
      unfold setP
      split
      · exact hw
      · exact hp t (by omega)
theorem oF_le {g : Nat → Nat × Int → Nat × Int} {K : Nat} (h : ∀ w st, (g w st).1 ≤ st.1 + K) (st : Nat × Int) : ∀ m, (oF g m st).1 ≤ st.1 + m * K
  | 0 => by unfold oF; omega
  | m + 1 => by
    have a := oF_le h st m
    have b := h m (oF g m st)
    unfold oF
    rw [Nat.succ_mul]
    omega
theorem oE_le (h6 : wn A ≤ 6) : ∀ (r k : Nat) (p : Nat → Nat) (st : Nat × Int), (oE A S wt r k p st).1 ≤ st.1 + 6 ^ r
  | 0, k, p, st => by
    unfold oE
    rcases Classical.em (feas A S p (wn A)) with q | q
    · rw [lf_yes q]
      show st.1 + 1 ≤ st.1 + 6 ^ 0
      omega
    · rw [lf_no q]; omega
  | r + 1, k, p, st => by
    unfold oE
    have := oF_le (g := oG p k (fun q s => oE A S wt r (k + 1) q s)) (K := 6 ^ r) (fun w st => by
      rcases oG_or (p := p) (k := k) (h := fun q s => oE A S wt r (k + 1) q s) w st with z | z
      · rw [z]; exact Nat.le_add_right _ _
      · rw [z]; exact oE_le h6 r (k + 1) _ st) st (wn A)
    have := Nat.mul_le_mul_right (6 ^ r) h6
    rw [Nat.pow_succ]
    omega
theorem ordR_1 {p : Nat → Nat} {k : Nat} (h : k ≤ 1) (i j : Nat) (v : Int) : ordR A S p k i j v ↔ conR A S (fn A) i j v := by
  unfold ordR
  constructor
  · rintro (q | ⟨t, t1, -⟩)
    · exact q
    · omega
  · exact Or.inl
theorem ordR_set {p : Nat → Nat} {k w : Nat} (hk : 0 < k) (i j : Nat) (v : Int) : ordR A S (setP p k w) (k + 1) i j v ↔ arcR (ordR A S p k) (p (k - 1) + 1) (w + 1) 1 i j v := by
  unfold ordR arcR
  constructor
  · rintro (q | ⟨t, t1, t2, t3, t4⟩)
    · exact Or.inl (Or.inl q)
    · by_cases c : t + 1 = k
      · rw [c, setP_at] at t3
        rw [setP_low (by omega), show t = k - 1 by omega] at t2
        exact Or.inr ⟨t2, t3, t4⟩
      · rw [setP_low (by omega)] at t2 t3
        exact Or.inl (Or.inr ⟨t, by omega, t2, t3, t4⟩)
  · rintro ((q | ⟨t, t1, t2, t3, t4⟩) | ⟨q1, q2, q3⟩)
    · exact Or.inl q
    · exact Or.inr ⟨t, by omega, by rw [setP_low (by omega)]; exact t2, by rw [setP_low (by omega)]; exact t3, t4⟩
    · exact Or.inr ⟨k - 1, by omega, by rw [setP_low (by omega)]; exact q1, by rw [show k - 1 + 1 = k by omega, setP_at]; exact q2, q3⟩
end X71
