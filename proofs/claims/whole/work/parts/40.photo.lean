/-! ===== photo, crossings, top, judge ===== -/
section X40
variable {B n : Nat} {wa : Nat → Nat} {σ : Sg} {A : AS}
/-- that a's print in cell c lies above b's, if that may be told -/
def factAb (A : AS) (who a b c : Int) : Option Fc := if crs A a b c ∧ fn A < 20 then some (who, a.toNat + 1, b.toNat + 1, mad (wk A b.toNat) c - mad (wk A a.toNat) c + 1, 1000000) else none
theorem x_keepFull (h : St B wa σ A) (hf : ¬ fn A < 20) (a b c d e : Int32) : mX9_keep n σ B a b c d e = some ((-1 : Int32), σ) := by
  obtain ⟨hC, hS, hA⟩ := id h
  have hf2 := hA.2.2.2.1.1
  unfold mX9_keep
  simp only [hC.o, hC.qfn, Option.bind_some]
  rw [if_neg (fun q => by have := (c_ltL 20 (by omega) (RI.sm (by omega) (by omega))).mp q; omega)]
theorem x_tellAbove' (h : St B wa σ A) {who a b c : Int} (hw : -1 ≤ who ∧ who ≤ 5) (ha : RI a) (hb : RI b) (hc : RI c) : Adds B wa σ A (mX9_tellAbove n σ B (iI who) (iI a) (iI b) (iI c)) (factAb A who a b c) := by
  by_cases hf : fn A < 20
  · have := x_tellAbove (n := n) h hf hw ha hb hc
    unfold factAb
    by_cases c0 : crs A a b c
    · rw [if_pos c0] at this
      rw [if_pos ⟨c0, hf⟩]
      exact this
    · rw [if_neg c0] at this
      rw [if_neg (fun q => c0 q.1)]
      exact this
  · obtain ⟨hC, hS, hA⟩ := id h
    unfold factAb
    rw [if_neg (fun q => hf q.2)]
    unfold mX9_tellAbove
    simp only [hC.o, Option.bind_some, x_isCrossing hC hA ha hb hc]
    by_cases c0 : crs A a b c
    · rw [if_pos c0, if_neg i10]
      simp only [mX9_pointOf, Option.bind_some, x_lead hC hA c0.2.1.1 c0.2.2.1 hc, x_keepFull h hf]
      exact Adds.no h
    · rw [if_neg c0, if_pos i00]
      exact Adds.no h
def addO (A : AS) (o : Option Fc) : AS := match o with
  | none => A
  | some q => addF A q
theorem AddQ.st {o : Option Fc} {A' : AS} {r : Int} (h : AddQ A o A' r) : A' = addO A o := by
  cases o with
  | none => exact h.1
  | some q => exact h.1
/-- the facts of a photo, walk by walk -/
def phA (who w c : Int) (A : AS) : Nat → AS
  | 0 => A
  | t + 1 => addO (phA who w c A t) (factAb (phA who w c A t) who w t c)
theorem addO_wn (A : AS) (o : Option Fc) : wn (addO A o) = wn A := by cases o <;> rfl
theorem phA_wn (who w c : Int) (A : AS) : ∀ t, wn (phA who w c A t) = wn A
  | 0 => rfl
  | t + 1 => by
    unfold phA
    rw [addO_wn, phA_wn who w c A t]
def phOK (A : AS) (who w c : Int) : Prop := (-1 ≤ who ∧ who ≤ 5) ∧ pIn A w c ∧ iI (fn A) + (bcI (iI (prs A c)) - 1) ≤ 20
/-- a photo's answer and what it leaves -/
def Photo (A : AS) (who w c : Int) (A' : AS) (r : Int) : Prop := (phOK A who w c ∧ A' = phA who w c A (wn A) ∧ r = fn A') ∨ (¬ phOK A who w c ∧ A' = A ∧ r = -1)
theorem lIn_m1 (w : Wk) : lIn w (-1) = -1 := by unfold lIn; rw [if_neg (by omega)]
theorem x_photo (h : St B wa σ A) {who w x y : Int} (hw : RI who) (hv : RI w) (hx : RI x) (hy : RI y) (hn : 100000 ≤ n) : ∃ r A' σ', mX9_photo n σ B (iI who) (iI w) (iI x) (iI y) = some (iI r, σ') ∧ St B wa σ' A' ∧ Kp B σ σ' ∧ Photo A who w (cAt A x y) A' r := by
  obtain ⟨hC, hS, hA⟩ := id h
  have h8 := hA.2.2.1.1
  have hc := cAt_RI A hA x y
  have rc : RI (cAt A x y) := RI.sm (by omega) (by omega)
  have no : ¬ phOK A who w (cAt A x y) → ∃ r A' σ', some ((-1 : Int32), σ) = some (iI r, σ') ∧ St B wa σ' A' ∧ Kp B σ σ' ∧ Photo A who w (cAt A x y) A' r := fun q => ⟨-1, A, σ, rfl, h, Kp.refl B σ, Or.inr ⟨q, rfl, rfl⟩⟩
  unfold mX9_photo
  simp only [hC.o, Option.bind_some, x_cellAt hC hA hx hy, x_isWho hw]
  by_cases c0 : -1 ≤ who ∧ who ≤ 5
  · rw [if_pos c0, if_neg i10]
    simp only [x_printsIn hC hA hv rc, Option.bind_some]
    by_cases c1 : pIn A w (cAt A x y)
    · rw [if_pos c1, if_neg i10]
      have c2 : cAt A x y ≠ -1 := fun e => c1.2 (by rw [e]; exact lIn_m1 _)
      simp only [x_prints hC hA hx hy hn, Option.bind_some, if_neg c2, j_bitCount, nm, hC.qfn]
      by_cases c3 : iI (fn A) + (bcI (iI (prs A (cAt A x y))) - 1) ≤ 20
      · rw [if_pos c3]
        have key := loop_inv (body := mX9_photo_L59 n B (iI who) (iI w) (iI (cAt A x y))) (fun c => ∃ t : Nat, t ≤ wn A ∧ c.2 = iI t ∧ St B wa c.1 (phA who w (cAt A x y) A t) ∧ Kp B σ c.1) (fun c => wn A - c.2.toNatClampNeg)
          (fun s => St B wa s (phA who w (cAt A x y) A (wn A)) ∧ Kp B σ s) ?_ n (σ, (0 : Int32)) ⟨0, by omega, rfl, h, Kp.refl B σ⟩ (by omega)
        · obtain ⟨s, e1, e2, e3⟩ := key
          simp only [e1, Option.bind_some, e2.1.qfn]
          exact ⟨_, _, s, rfl, e2, e3, Or.inl ⟨⟨c0, c1, c3⟩, rfl, rfl⟩⟩
        · rintro ⟨s, z⟩ ⟨t, ht, ez, hs, hk⟩
          have ez : z = iI t := ez
          subst ez
          have hz : (iI (t : Int)).toNatClampNeg = t := by rw [iI_clamp (by omega) (by omega)]; omega
          have hz1 : (iI ((t : Int) + 1)).toNatClampNeg = t + 1 := by rw [iI_clamp (by omega) (by omega)]; omega
          have hwn := hs.1.qwn
          rw [phA_wn] at hwn
          have rt : RI (t : Int) := RI.sm (by omega) (by omega)
          by_cases c4 : t = wn A
          · refine Or.inr ⟨s, ?_, by rw [← c4]; exact hs, hk⟩
            simp only [mX9_photo_L59, hwn, Option.bind_some]
            rw [if_pos ((c_le (RI.sm (by omega) (by omega)) rt).mpr (by omega))]
          · obtain ⟨r, A', σ', e1, e2, e3, e4⟩ := x_tellAbove' (n := n) hs (b := t) c0 hv rt rc
            refine Or.inl ⟨(σ', iI ((t : Int) + 1)), ?_, ⟨t + 1, by omega, rfl, ?_, hk.trans e3⟩, ?_⟩
            · simp only [mX9_photo_L59, hwn, Option.bind_some, e1]
              rw [if_neg (fun q => by have := (c_le (RI.sm (by omega) (by omega)) rt).mp q; omega), iI_1, iI_add]
            · show St B wa σ' (addO _ _)
              rw [← AddQ.st e4]; exact e2
            · show wn A - (iI ((t : Int) + 1)).toNatClampNeg < wn A - (iI (t : Int)).toNatClampNeg
              rw [hz, hz1]; omega
      · rw [if_neg c3]
        exact no (fun q => c3 q.2.2)
    · rw [if_neg c1, if_pos i00]
      exact no (fun q => c1 q.2.1)
  · rw [if_neg c0, if_pos i00]
    exact no (fun q => c0 q.1)
/-- what stands still over cells without a print stands still as long as no place more is listed -/
theorem plc_mono (c : Nat → Nat) (l : Nat) {k j : Nat} (h : k ≤ j) : plc c l k ≤ plc c l j := by
  induction j with
  | zero => rw [show k = 0 by omega]; exact Nat.le_refl _
  | succ j ih =>
    by_cases e : k = j + 1
    · rw [e]; exact Nat.le_refl _
    · have := ih (by omega)
      conv => rhs; unfold plc
      split <;> omega
theorem plc_level {S : Type} {c : Nat → Nat} {l : Nat} (F : Nat → S) (hF : ∀ k, lat c k l = -1 → F (k + 1) = F k) {k j : Nat} (h : k ≤ j) (he : plc c l k = plc c l j) : F j = F k := by
  induction j with
  | zero => rw [show k = 0 by omega]
  | succ j ih =>
    by_cases e : k = j + 1
    · rw [e]
    · have h1 := plc_mono c l (show k ≤ j by omega)
      have h2 : plc c l (j + 1) = if lat c j l = -1 then plc c l j else plc c l j + 1 := rfl
      by_cases d : lat c j l = -1
      · rw [if_pos d] at h2
        rw [hF j d, ih (by omega) (by omega)]
      · rw [if_neg d] at h2
        omega
theorem plc_eq {S : Type} {c : Nat → Nat} {l : Nat} (F : Nat → S) (hF : ∀ k, lat c k l = -1 → F (k + 1) = F k) {k j : Nat} (he : plc c l k = plc c l j) : F j = F k := by
  rcases Nat.le_total k j with h | h
  · exact plc_level F hF h he
  · exact (plc_level F hF h he.symm).symm
theorem plc_find (c : Nat → Nat) (l : Nat) {t : Nat} : ∀ m, t < plc c l m → ∃ k, k < m ∧ lat c k l ≠ -1 ∧ plc c l k = t
  | 0, h => by simp [plc] at h
  | m + 1, h => by
    have h2 : plc c l (m + 1) = if lat c m l = -1 then plc c l m else plc c l m + 1 := rfl
    by_cases d : lat c m l = -1
    · rw [if_pos d] at h2
      obtain ⟨k, a, b⟩ := plc_find c l (t := t) m (by omega)
      exact ⟨k, by omega, b⟩
    · rw [if_neg d] at h2
      by_cases e : plc c l m = t
      · exact ⟨m, by omega, d, e⟩
      · obtain ⟨k, a, b⟩ := plc_find c l (t := t) m (by omega)
        exact ⟨k, by omega, b⟩
theorem plc_le (c : Nat → Nat) (l : Nat) : ∀ m, plc c l m ≤ m
  | 0 => Nat.le_refl 0
  | m + 1 => by
    have := plc_le c l m
    unfold plc
    split <;> omega
/-- the next place of a walk -/
theorem w_place {q t : Nat} {w : Wk} (h : WalkAt σ q w) (hp : plc (wcell w) (wlast w) 256 ≤ 61) (ht : t < plc (wcell w) (wlast w) 256) : ∃ k, k < 256 ∧ lat (wcell w) k (wlast w) ≠ -1 ∧ plc (wcell w) (wlast w) k = t ∧ toR (gV 8 σ q 4) = some (q + 3) ∧ toI (aV 11 σ (q + 3) (iI t)) = some (iI k) := by
  obtain ⟨⟨s0, s1, s2, s3⟩, ⟨f0, f1, f2, f3, f4, f5, f6, f7, f8⟩, -, -, ⟨e, m1, c1⟩⟩ := h
  obtain ⟨k, k1, k2, k3⟩ := plc_find (wcell w) (wlast w) 256 ht
  refine ⟨k, k1, k2, k3, gR_ok s0 (by omega) f4, ?_⟩
  rw [aI_ok s3 m1 (by omega) (by omega) (by omega), show ((t : Int)).toNat = t by omega, ← k3, c1 k k1 k2]
end X40
