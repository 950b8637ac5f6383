/-! ===== facts are told ===== -/
def tellS (σ : Sg) (f : Nat) (q : Fc) : Sg := setF (setF (setF (setF (setF σ f 0 (.int (iI q.1))) f 1 (.int (iI q.2.1))) f 2 (.int (iI q.2.2.1))) f 3 (.int (iI q.2.2.2.1))) f 4 (.int (iI q.2.2.2.2))
theorem tellS_ne {σ : Sg} {f : Nat} {q : Fc} {a : Nat} (h : a ≠ f) : (tellS σ f q).2.2 a = σ.2.2 a := by
  unfold tellS
  rw [setF_ne _ _ _ h, setF_ne _ _ _ h, setF_ne _ _ _ h, setF_ne _ _ _ h, setF_ne _ _ _ h]
theorem tellS_at {σ : Sg} {f : Nat} {q : Fc} (h : σ.2.1 f = some (2, 5)) : FactAt (tellS σ f q) f q.1 q.2.1 q.2.2.1 q.2.2.2.1 q.2.2.2.2 := by
  refine ⟨h, ?_, ?_, ?_, ?_, ?_⟩ <;> simp [tellS, setF_at]
theorem f_tell {σ : Sg} {f n : Nat} {q : Fc} (h : σ.2.1 f = some (2, 5)) : mX2_tell n σ f (iI q.1) (iI q.2.1) (iI q.2.2.1) (iI q.2.2.2.1) (iI q.2.2.2.2) = some (tellS σ f q) := by
  unfold mX2_tell tellS
  rw [isO_ok h]
  show (pV 2 σ f 0 (.int (iI q.1))).bind _ = _
  rw [pV_ok h (by omega)]
  show (pV 2 (setF σ f 0 (.int (iI q.1))) f 1 (.int (iI q.2.1))).bind _ = _
  generalize hs0 : setF σ f 0 (.int (iI q.1)) = s0
  have h0 : s0.2.1 f = some (2, 5) := by rw [← hs0]; exact h
  rw [pV_ok h0 (by omega)]
  show (pV 2 (setF s0 f 1 (.int (iI q.2.1))) f 2 (.int (iI q.2.2.1))).bind _ = _
  generalize hs1 : setF s0 f 1 (.int (iI q.2.1)) = s1
  have h1 : s1.2.1 f = some (2, 5) := by rw [← hs1]; exact h0
  rw [pV_ok h1 (by omega)]
  show (pV 2 (setF s1 f 2 (.int (iI q.2.2.1))) f 3 (.int (iI q.2.2.2.1))).bind _ = _
  generalize hs2 : setF s1 f 2 (.int (iI q.2.2.1)) = s2
  have h2 : s2.2.1 f = some (2, 5) := by rw [← hs2]; exact h1
  rw [pV_ok h2 (by omega)]
  show (pV 2 (setF s2 f 3 (.int (iI q.2.2.2.1))) f 4 (.int (iI q.2.2.2.2))).bind _ = _
  generalize hs3 : setF s2 f 3 (.int (iI q.2.2.2.1)) = s3
  have h3 : s3.2.1 f = some (2, 5) := by rw [← hs3]; exact h2
  rw [pV_ok h3 (by omega)]
  rfl
/-- a fact more -/
def addF (A : AS) (q : Fc) : AS := setFn A (fn A + 1) (fun k => if k = fn A then q else fc A k)
section X37
variable {B n : Nat} {wa : Nat → Nat} {σ : Sg} {A : AS}
theorem x_keep (h : St B wa σ A) (hf : fn A < 20) {q : Fc} (hq : FWf A q) : ∃ σ', mX9_keep n σ B (iI q.1) (iI q.2.1) (iI q.2.2.1) (iI q.2.2.2.1) (iI q.2.2.2.2) = some (iI (fn A), σ') ∧ St B wa σ' (addF A q) ∧ Kp B σ σ' := by
  obtain ⟨hC, hS, hA⟩ := id h
  have hsh : σ.2.1 (B + (50 + fn A)) = some (2, 5) := by
    rw [hC.sh (50 + fn A) (by omega)]
    rcases (show fn A = 0 ∨ fn A = 1 ∨ fn A = 2 ∨ fn A = 3 ∨ fn A = 4 ∨ fn A = 5 ∨ fn A = 6 ∨ fn A = 7 ∨ fn A = 8 ∨ fn A = 9 ∨ fn A = 10 ∨ fn A = 11 ∨ fn A = 12 ∨ fn A = 13 ∨ fn A = 14 ∨ fn A = 15 ∨ fn A = 16 ∨ fn A = 17 ∨ fn A = 18 ∨ fn A = 19 by omega) with e | e | e | e | e | e | e | e | e | e | e | e | e | e | e | e | e | e | e | e <;> rw [e] <;> rfl
  have hx : ∀ s : Sg, s.2.1 = σ.2.1 → s.2.1 B = some (9, 18) := fun s hs => by rw [hs]; exact hC.x
  have hsT : (tellS σ (B + (50 + fn A)) q).2.1 = σ.2.1 := rfl
  have e8 : (tellS σ (B + (50 + fn A)) q).2.2 B 8 = .int (iI (fn A)) := by
    rw [tellS_ne (by omega)]; exact hC.2.2.2.2.2.1.2.2.2.2.1
  unfold mX9_keep
  simp only [hC.o, hC.qfn, hC.r7, hC.fact (show fn A < 20 from hf), Option.bind_some, f_tell hsh]
  rw [if_pos ((c_ltL 20 (by omega) (RI.sm (by omega) (by omega))).mpr (by omega))]
  simp only [gI_ok (hx _ hsT) (show 8 < 18 by omega) e8, Option.bind_some, pV_ok (hx _ hsT) (show 8 < 18 by omega), iI_1, iI_add]
  have hs2 : (setF (tellS σ (B + (50 + fn A)) q) B 8 (.int (iI ((fn A : Int) + 1)))).2.1 = σ.2.1 := rfl
  simp only [gI_ok (hx _ hs2) (show 8 < 18 by omega) (setF_self _ B 8 _), Option.bind_some, iI_sub]
  refine ⟨setF (tellS σ (B + (50 + fn A)) q) B 8 (.int (iI ((fn A : Int) + 1))), by rw [show (fn A : Int) + 1 - 1 = fn A by omega], ?_, ⟨Nat.le_refl _, fun _ _ => rfl, fun a h1 h2 => by rw [setF_ne _ _ _ (by omega), tellS_ne (by omega)]⟩⟩
  obtain ⟨g0, g1, g2, g3, g4⟩ := hC.split
  have far : ∀ a, a ≠ B → a ≠ B + (50 + fn A) → (setF (tellS σ (B + (50 + fn A)) q) B 8 (.int (iI ((fn A : Int) + 1)))).2.2 a = σ.2.2 a := fun a h1 h2 => by rw [setF_ne _ _ _ h1, tellS_ne h2]
  have b0 : ∀ k, k ≠ 8 → (setF (tellS σ (B + (50 + fn A)) q) B 8 (.int (iI ((fn A : Int) + 1)))).2.2 B k = σ.2.2 B k := fun k hk => by rw [setF_k _ _ _ hk, tellS_ne (by omega)]
  refine ⟨RC.join (A := addF A q) (g0.same g0.2.2.2.2.2.2 (fun _ _ => rfl) (fun r k hr hk => ?_)) (g1.same (by rw [far _ (by omega) (by omega)]) (far _ (by omega) (by omega))) (g2.same (Nat.le_refl _) (fun _ _ _ => rfl) (b0 6 (by omega)) (far _ (by omega) (by omega)) (fun a q1 q2 => far a (by omega) (by omega))) ⟨?_, fun k hk => ?_⟩ (g4.same (b0 10 (by omega)) (far _ (by omega) (by omega))), hS.same rfl (fun r hr h0 h1 h2 h3 h4 h5 => far _ (by omega) (by omega)), ?_⟩
  · have hr50 : r < 50 := by
      unfold sq at hk
      simp only [Bool.and_eq_true, decide_eq_true_eq] at hk
      exact hk.2
    rcases Nat.eq_zero_or_pos r with e | e
    · subst e
      exact b0 k (fun e => by subst e; cases hk)
    · rw [far _ (by omega) (by omega)]
  · exact setF_self _ B 8 _
  · show FactAt _ _ (if k = fn A then q else fc A k).1 (if k = fn A then q else fc A k).2.1 (if k = fn A then q else fc A k).2.2.1 (if k = fn A then q else fc A k).2.2.2.1 (if k = fn A then q else fc A k).2.2.2.2
    have hk' : k < fn A + 1 := hk
    by_cases c : k = fn A
    · rw [if_pos c, c]
      exact (tellS_at hsh).same rfl (by rw [setF_ne _ _ _ (by omega)])
    · rw [if_neg c]
      exact (g3.2 k (by omega)).same rfl (far _ (by omega) (by omega))
  · obtain ⟨a1, a2, a3, ⟨a4, a5⟩, a6⟩ := hA
    refine ⟨a1, a2, a3, ⟨hf, fun k hk => ?_⟩, a6⟩
    show FWf A (if k = fn A then q else fc A k)
    have hk' : k < fn A + 1 := hk
    by_cases c : k = fn A
    · rw [if_pos c]; exact hq
    · rw [if_neg c]; exact a5 k (by omega)
/-- the fact that is told, if it may be -/
def factOf (A : AS) (who kind a b x y : Int) : Option Fc :=
  if ¬ (-1 ≤ who ∧ who ≤ 5) ∨ ¬ isW A a ∨ ¬ fn A < 20 then none
  else if kind = 0 then (if crs A a b (cAt A x y) then some (who, a.toNat + 1, b.toNat + 1, mad (wk A b.toNat) (cAt A x y) - mad (wk A a.toNat) (cAt A x y) + 1, 1000000) else none)
  else if kind = 1 then (if lIn (wk A a.toNat) (cAt A x y) ≠ -1 ∧ 0 ≤ b ∧ b ≤ 5000 then some (who, a.toNat + 1, 0, b - mad (wk A a.toNat) (cAt A x y) + 1, 1000000) else none)
  else if kind = 2 then (if lIn (wk A a.toNat) (cAt A x y) ≠ -1 ∧ 0 ≤ b ∧ b ≤ 5000 then some (who, a.toNat + 1, 0, -1000000, b - mad (wk A a.toNat) (cAt A x y)) else none)
  else if kind = 3 then (if 0 ≤ x ∧ y ≤ day A ∧ x ≤ y then some (who, a.toNat + 1, 0, x, y) else none)
  else if kind = 4 then (if a ≠ b ∧ isW A b ∧ -5000 ≤ x ∧ x ≤ 5000 then some (who, a.toNat + 1, b.toNat + 1, x, 1000000) else none)
  else none
/-- a call that may add a fact -/
def AddQ (A : AS) (o : Option Fc) (A' : AS) (r : Int) : Prop := match o with
  | none => A' = A ∧ r = -1
  | some q => A' = addF A q ∧ r = fn A
theorem x_isWho {z : Int} (hz : RI z) : mX9_isWho n σ (iI z) = some (if -1 ≤ z ∧ z ≤ 5 then 1 else 0, σ) := by
  unfold mX9_isWho
  by_cases c : z < -1
  · rw [if_pos (by rw [iI_m1]; exact (c_lt hz (by unfold RI; omega)).mpr c), if_neg (by omega)]
  · rw [if_neg (fun q => c ((c_lt hz (by unfold RI; omega)).mp (by rw [iI_m1] at q; exact q)))]
    by_cases c2 : 6 ≤ z
    · rw [if_pos ((c_Lle 6 (by omega) hz).mpr c2), if_neg (by omega)]
    · rw [if_neg (fun q => c2 ((c_Lle 6 (by omega) hz).mp q)), if_pos (by omega)]
theorem x_isTick {z : Int} (hz : RI z) : mX9_isTick n σ (iI z) = some (if 0 ≤ z ∧ z ≤ 5000 then 1 else 0, σ) := by
  unfold mX9_isTick
  by_cases c : z < 0
  · rw [if_pos ((c_lt0 hz).mpr c), if_neg (by omega)]
  · rw [if_neg (fun q => c ((c_lt0 hz).mp q))]
    by_cases c2 : 5000 < z
    · rw [if_pos ((c_Llt 5000 (by omega) hz).mpr c2), if_neg (by omega)]
    · rw [if_neg (fun q => c2 ((c_Llt 5000 (by omega) hz).mp q)), if_pos (by omega)]
end X37
