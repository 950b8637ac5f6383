/-! ===== the class's heap in groups, for calls that change the state ===== -/
section X36
variable {B n : Nat} {wa wb : Nat → Nat} {σ σ' : Sg} {A A' : AS}
def R0 (B : Nat) (σ : Sg) (w d y : Nat) : Prop :=
  (∀ k, k < 70 → σ.2.1 (B + k) = xtL[k]?) ∧ (∀ (i : Nat) (q : Nat × Nat × Nat), ptL[i]? = some q → σ.2.2 (B + q.1) q.2.1 = .ref (B + q.2.2)) ∧
  (∀ k, k < 7 → σ.2.2 (B + 12) k = .ref (B + (15 + 2 * k)) ∧ σ.2.2 (B + (15 + 2 * k)) 0 = .ref (B + (16 + 2 * k))) ∧ (∀ k, k < 6 → σ.2.2 (B + 30) k = .ref (B + (31 + 2 * k)) ∧ σ.2.2 (B + (31 + 2 * k)) 0 = .ref (B + (32 + 2 * k))) ∧ (∀ k, k < 20 → σ.2.2 (B + 4) k = .ref (B + (50 + k))) ∧
  (σ.2.2 B 0 = .int (iI w) ∧ σ.2.2 B 1 = .int (iI d) ∧ σ.2.2 B 2 = .int (iI y) ∧ σ.2.2 (B + 46) 0 = .int (iI w) ∧ σ.2.2 (B + 46) 1 = .int (iI d)) ∧ B + 90 ≤ σ.1
def RT (B : Nat) (σ : Sg) (t : Nat) (b : Nat → Nat) : Prop := σ.2.2 (B + 1) 1 = .int (iI t) ∧ ∃ e, σ.2.2 (B + 2) = iz e ∧ ∀ k, k < t → e k = b k
def RW (B : Nat) (wa : Nat → Nat) (σ : Sg) (c : Nat) (w : Nat → Wk) : Prop := σ.2.2 B 6 = .int (iI c) ∧ (∀ i, i < c → σ.2.2 (B + 3) i = .ref (wa i) ∧ WalkAt σ (wa i) (w i) ∧ B + 90 ≤ wa i ∧ wa i + 4 ≤ σ.1) ∧ (∀ i, c ≤ i → i < 8 → σ.2.2 (B + 3) i = .null) ∧ (∀ v w, v < w → w < c → wa v + 4 ≤ wa w)
def RF (B : Nat) (σ : Sg) (c : Nat) (f : Nat → Fc) : Prop := σ.2.2 B 8 = .int (iI c) ∧ ∀ k, k < c → FactAt σ (B + (50 + k)) (f k).1 (f k).2.1 (f k).2.2.1 (f k).2.2.2.1 (f k).2.2.2.2
def RN (B : Nat) (σ : Sg) (c : Nat) (s : Nat → Nat) : Prop := σ.2.2 B 10 = .int (iI c) ∧ ∃ e, σ.2.2 (B + 5) = iz e ∧ ∀ k, k < c → e k = s k
theorem RC.split (h : RC B wa σ A) : R0 B σ (wide A) (deep A) (day A) ∧ RT B σ (tn A) (tb A) ∧ RW B wa σ (wn A) (wk A) ∧ RF B σ (fn A) (fc A) ∧ RN B σ (sn A) (sw A) := by
  obtain ⟨h1, h2, h3, h4, h5, ⟨i1, i2, i3, i4, i5, i6, i7, i8, i9⟩, t, s, hf, hw, hw0, hwd, hz⟩ := h
  exact ⟨⟨h1, h2, h3, h4, h5, ⟨i1, i2, i3, i8, i9⟩, hz⟩, ⟨i7, t⟩, ⟨i4, hw, hw0, hwd⟩, ⟨i5, hf⟩, ⟨i6, s⟩⟩
theorem RC.join (h0 : R0 B σ (wide A) (deep A) (day A)) (ht : RT B σ (tn A) (tb A)) (hw : RW B wa σ (wn A) (wk A)) (hf : RF B σ (fn A) (fc A)) (hs : RN B σ (sn A) (sw A)) : RC B wa σ A := by
  obtain ⟨h1, h2, h3, h4, h5, ⟨i1, i2, i3, i8, i9⟩, hz⟩ := h0
  obtain ⟨i7, t⟩ := ht
  obtain ⟨i4, hw, hw0, hwd⟩ := hw
  obtain ⟨i5, hf⟩ := hf
  obtain ⟨i6, s⟩ := hs
  exact ⟨h1, h2, h3, h4, h5, ⟨i1, i2, i3, i4, i5, i6, i7, i8, i9⟩, t, s, hf, hw, hw0, hwd, hz⟩
/-- places that R0 speaks of -/
def sq (r k : Nat) : Bool := !sp r k && !(r == 0 && (k == 6 || k == 8 || k == 10)) && !(r == 1 && k == 1) && r != 2 && r != 3 && r != 5 && decide (r < 50)
theorem R0.same {w d y : Nat} (h : R0 B σ w d y) (hz : B + 90 ≤ σ'.1) (hs : ∀ r, r < 70 → σ'.2.1 (B + r) = σ.2.1 (B + r)) (hm : ∀ r k, r < 70 → sq r k = true → σ'.2.2 (B + r) k = σ.2.2 (B + r) k) : R0 B σ' w d y := by
  obtain ⟨h1, h2, h3, h4, h5, ⟨i1, i2, i3, i8, i9⟩, -⟩ := h
  refine ⟨fun k hk => by rw [hs k hk]; exact h1 k hk, fun i q hq => ?_, fun k hk => ?_, fun k hk => ?_, fun k hk => by rw [hm 4 k (by omega) rfl]; exact h5 k hk, ⟨(hm 0 0 (by omega) rfl).trans i1, (hm 0 1 (by omega) rfl).trans i2, (hm 0 2 (by omega) rfl).trans i3, (hm 46 0 (by omega) rfl).trans i8, (hm 46 1 (by omega) rfl).trans i9⟩, hz⟩
  · have hall : ptL.all (fun q => decide (q.1 < 70) && sq q.1 q.2.1) = true := by decide
    have hq2 := List.all_eq_true.mp hall q (List.mem_of_getElem? hq)
    simp only [Bool.and_eq_true, decide_eq_true_eq] at hq2
    rw [hm _ _ hq2.1 hq2.2]; exact h2 i q hq
  · obtain ⟨q1, q2⟩ := h3 k hk
    have z2 : sq (15 + 2 * k) 0 = true := by
      rcases (show k = 0 ∨ k = 1 ∨ k = 2 ∨ k = 3 ∨ k = 4 ∨ k = 5 ∨ k = 6 by omega) with rfl | rfl | rfl | rfl | rfl | rfl | rfl <;> rfl
    exact ⟨by rw [hm 12 k (by omega) rfl]; exact q1, by rw [hm _ 0 (by omega) z2]; exact q2⟩
  · obtain ⟨q1, q2⟩ := h4 k hk
    have z2 : sq (31 + 2 * k) 0 = true := by
      rcases (show k = 0 ∨ k = 1 ∨ k = 2 ∨ k = 3 ∨ k = 4 ∨ k = 5 by omega) with rfl | rfl | rfl | rfl | rfl | rfl <;> rfl
    exact ⟨by rw [hm 30 k (by omega) rfl]; exact q1, by rw [hm _ 0 (by omega) z2]; exact q2⟩
theorem RT.same {t : Nat} {b : Nat → Nat} (h : RT B σ t b) (h1 : σ'.2.2 (B + 1) 1 = σ.2.2 (B + 1) 1) (h2 : σ'.2.2 (B + 2) = σ.2.2 (B + 2)) : RT B σ' t b := by
  unfold RT at h ⊢
  rw [h1, h2]; exact h
theorem RN.same {c : Nat} {s : Nat → Nat} (h : RN B σ c s) (h1 : σ'.2.2 B 10 = σ.2.2 B 10) (h2 : σ'.2.2 (B + 5) = σ.2.2 (B + 5)) : RN B σ' c s := by
  unfold RN at h ⊢
  rw [h1, h2]; exact h
theorem RF.same {c : Nat} {f : Nat → Fc} (h : RF B σ c f) (hs : ∀ r, r < 70 → σ'.2.1 (B + r) = σ.2.1 (B + r)) (hc : c ≤ 20) (h1 : σ'.2.2 B 8 = σ.2.2 B 8) (h2 : ∀ r, 50 ≤ r → r < 70 → σ'.2.2 (B + r) = σ.2.2 (B + r)) : RF B σ' c f :=
  ⟨h1.trans h.1, fun k hk => (h.2 k hk).same (hs _ (by omega)) (h2 _ (by omega) (by omega))⟩
theorem RW.same {c : Nat} {w : Nat → Wk} (h : RW B wa σ c w) (hz : σ.1 ≤ σ'.1) (hs : ∀ a, B + 90 ≤ a → a < σ.1 → σ'.2.1 a = σ.2.1 a) (h1 : σ'.2.2 B 6 = σ.2.2 B 6) (h2 : σ'.2.2 (B + 3) = σ.2.2 (B + 3)) (h3 : ∀ a, B + 90 ≤ a → a < σ.1 → σ'.2.2 a = σ.2.2 a) : RW B wa σ' c w := by
  obtain ⟨a1, a2, a3, a4⟩ := h
  refine ⟨h1.trans a1, fun i hi => ?_, fun i q1 q2 => by rw [h2]; exact a3 i q1 q2, a4⟩
  obtain ⟨b1, b2, b3, b4⟩ := a2 i hi
  refine ⟨by rw [h2]; exact b1, ?_, b3, by omega⟩
  have m0 := h3 (wa i) (by omega) (by omega)
  have m1 := h3 (wa i + 1) (by omega) (by omega)
  have m2 := h3 (wa i + 2) (by omega) (by omega)
  have m3 := h3 (wa i + 3) (by omega) (by omega)
  have s0 := hs (wa i) (by omega) (by omega)
  have s1 := hs (wa i + 1) (by omega) (by omega)
  have s2 := hs (wa i + 2) (by omega) (by omega)
  have s3 := hs (wa i + 3) (by omega) (by omega)
  unfold WalkAt at b2 ⊢
  rw [m0, m1, m2, m3, s0, s1, s2, s3]
  exact b2
theorem RS.same (h : RS B σ) (hs : σ'.2.1 = σ.2.1) (hm : ∀ r, r < 50 → r ≠ 0 → r ≠ 1 → r ≠ 2 → r ≠ 3 → r ≠ 4 → r ≠ 5 → σ'.2.2 (B + r) = σ.2.2 (B + r)) : RS B σ' := by
  obtain ⟨h1, h2, h3, a1, a2, a3, a4, a5, a6, a7, a8, a9⟩ := h
  exact ⟨h1.same hs (hm 6 (by omega) (by omega) (by omega) (by omega) (by omega) (by omega) (by omega)) (hm 7 (by omega) (by omega) (by omega) (by omega) (by omega) (by omega) (by omega)), fun k hk => (h2 k hk).same hs (hm _ (by omega) (by omega) (by omega) (by omega) (by omega) (by omega) (by omega)) (hm _ (by omega) (by omega) (by omega) (by omega) (by omega) (by omega) (by omega)), fun k hk => (h3 k hk).same hs (hm _ (by omega) (by omega) (by omega) (by omega) (by omega) (by omega) (by omega)) (hm _ (by omega) (by omega) (by omega) (by omega) (by omega) (by omega) (by omega)), a1.same (hm _ (by omega) (by omega) (by omega) (by omega) (by omega) (by omega) (by omega)), a2.same (hm _ (by omega) (by omega) (by omega) (by omega) (by omega) (by omega) (by omega)), a3.same (hm _ (by omega) (by omega) (by omega) (by omega) (by omega) (by omega) (by omega)), a4.same (hm _ (by omega) (by omega) (by omega) (by omega) (by omega) (by omega) (by omega)), a5.same (hm _ (by omega) (by omega) (by omega) (by omega) (by omega) (by omega) (by omega)), a6.same (hm _ (by omega) (by omega) (by omega) (by omega) (by omega) (by omega) (by omega)), a7.same (hm _ (by omega) (by omega) (by omega) (by omega) (by omega) (by omega) (by omega)), a8.same (hm _ (by omega) (by omega) (by omega) (by omega) (by omega) (by omega) (by omega)), a9.same (hm _ (by omega) (by omega) (by omega) (by omega) (by omega) (by omega) (by omega))⟩
/-- what a call of the class leaves alone: the cells between B + 70 and B + 90 (the reference's, the law's), and all shapes -/
def Kp (B : Nat) (σ σ' : Sg) : Prop := σ.1 ≤ σ'.1 ∧ (∀ a, a < σ.1 → σ'.2.1 a = σ.2.1 a) ∧ ∀ a, B + 70 ≤ a → a < B + 90 → σ'.2.2 a = σ.2.2 a
theorem Fr.kp (h : Fr B σ σ') : Kp B σ σ' := ⟨Nat.le_of_eq h.1.symm, fun a _ => by rw [h.2.1], fun a ha _ => h.far ha⟩
theorem Kp.refl (B : Nat) (σ : Sg) : Kp B σ σ := ⟨Nat.le_refl _, fun _ _ => rfl, fun _ _ _ => rfl⟩
theorem Kp.trans {σ'' : Sg} (h1 : Kp B σ σ') (h2 : Kp B σ' σ'') : Kp B σ σ'' := ⟨Nat.le_trans h1.1 h2.1, fun a ha => (h2.2.1 a (Nat.lt_of_lt_of_le ha h1.1)).trans (h1.2.1 a ha), fun a p q => (h2.2.2 a p q).trans (h1.2.2 a p q)⟩
theorem Kp.wF {r k : Nat} {v : Value} (hr : r < 70) : Kp B σ (setF σ (B + r) k v) := ⟨Nat.le_refl _, fun _ _ => rfl, fun a h1 _ => by rw [setF_ne _ _ _ (by omega)]⟩
theorem Kp.w0 {k : Nat} {v : Value} : Kp B σ (setF σ B k v) := ⟨Nat.le_refl _, fun _ _ => rfl, fun a h1 _ => by rw [setF_ne _ _ _ (by omega)]⟩
theorem Kp.wA {r : Nat} {d : Nat → Int} (hr : r < 70) : Kp B σ (setA σ (B + r) d) := ⟨Nat.le_refl _, fun _ _ => rfl, fun a h1 _ => by rw [setA_ne _ _ (by omega)]⟩
/-- facts changed -/
def setFn (A : AS) (c : Nat) (f : Nat → Fc) : AS := (A.1, A.2.1, A.2.2.1, (c, f), A.2.2.2.2)
def setSn (A : AS) (c : Nat) (s : Nat → Nat) : AS := (A.1, A.2.1, A.2.2.1, A.2.2.2.1, (c, s))
def setTn (A : AS) (t : Nat) (b : Nat → Nat) : AS := (A.1, (t, b), A.2.2.1, A.2.2.2.1, A.2.2.2.2)
def setWn (A : AS) (c : Nat) (w : Nat → Wk) : AS := (A.1, A.2.1, (c, w), A.2.2.2.1, A.2.2.2.2)
theorem B_ne {r : Nat} (hr : 0 < r) : B + r ≠ B := by omega
theorem x_undo (h : St B wa σ A) : ∃ r σ', mX9_undo n σ B = some (iI r, σ') ∧ St B wa σ' (if fn A = 0 then A else setFn A (fn A - 1) (fc A)) ∧ Kp B σ σ' ∧ r = if fn A = 0 then -1 else (fn A : Int) - 1 := by
  obtain ⟨hC, hS, hA⟩ := id h
  have hf := hA.2.2.2.1.1
  unfold mX9_undo
  simp only [hC.o, hC.qfn, Option.bind_some]
  by_cases c : fn A = 0
  · rw [if_pos (by rw [c]; rfl)]
    exact ⟨-1, σ, rfl, by rw [if_pos c]; exact h, Kp.refl B σ, by rw [if_pos c]⟩
  · rw [if_neg (fun q => c (by have := (c_eq0 (RI.sm (by omega) (by omega))).mp q; omega))]
    have hx : (setF σ B 8 (.int (iI ((fn A : Int) - 1)))).2.1 B = some (9, 18) := hC.x
    simp only [pV_ok hC.x (show 8 < 18 by omega), Option.bind_some, iI_1, iI_sub, gI_ok hx (show 8 < 18 by omega) (setF_self σ B 8 _)]
    refine ⟨(fn A : Int) - 1, _, rfl, ?_, Kp.w0, by rw [if_neg c]⟩
    rw [if_neg c]
    obtain ⟨g0, g1, g2, g3, g4⟩ := hC.split
    have hn8 : ∀ r k, r < 70 → (0 < r ∨ k ≠ 8) → (setF σ B 8 (.int (iI ((fn A : Int) - 1)))).2.2 (B + r) k = σ.2.2 (B + r) k := fun r k _ hr => by
      rw [setF_at, if_neg (by omega)]
    refine ⟨RC.join (A := setFn A (fn A - 1) (fc A)) (g0.same g0.2.2.2.2.2.2 (fun _ _ => rfl) (fun r k hr hq => hn8 r k hr ?_)) (g1.same (by rw [setF_ne _ _ _ (by omega)]) (by rw [setF_ne _ _ _ (by omega)])) (g2.same (Nat.le_refl _) (fun _ _ _ => rfl) (setF_k _ _ _ (by omega)) (by rw [setF_ne _ _ _ (by omega)]) (fun a q1 q2 => by rw [setF_ne _ _ _ (by omega)])) ⟨?_, fun k hk => (g3.2 k (by show k < fn A; have : k < fn A - 1 := hk; omega)).same rfl (by rw [setF_ne _ _ _ (by omega)])⟩ (g4.same (setF_k _ _ _ (by omega)) (by rw [setF_ne _ _ _ (by omega)])), hS.same rfl (fun r _ h0 _ _ _ _ _ => by rw [setF_ne _ _ _ (by omega)]), ?_⟩
    · rcases Nat.eq_zero_or_pos r with e | e
      · subst e
        right
        intro e
        subst e
        cases hq
      · exact Or.inl e
    · show (setF σ B 8 (.int (iI ((fn A : Int) - 1)))).2.2 B 8 = .int (iI ((fn A - 1 : Nat) : Int))
      rw [setF_self, show ((fn A : Int) - 1) = ((fn A - 1 : Nat) : Int) by omega]
    · obtain ⟨a1, a2, a3, ⟨a4, a5⟩, a6⟩ := hA
      exact ⟨a1, a2, a3, ⟨by show fn A - 1 ≤ 20; omega, fun k hk => a5 k (by have : k < fn A - 1 := hk; omega)⟩, a6⟩
end X36
