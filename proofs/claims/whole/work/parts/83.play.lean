/-! ===== the class: a walk that is being walked ===== -/
theorem lat_congr {c c' : Nat → Nat} (i : Nat) : ∀ l, (∀ j, j ≤ l → c j = c' j) → lat c i l = lat c' i l
  | 0, h => by unfold lat; rw [h 0 (by omega)]
  | l + 1, h => by
    unfold lat
    rw [h (l + 1) (by omega), h l (by omega), lat_congr i l (fun j hj => h j (by omega))]
theorem prn_congr {c c' : Nat → Nat} : ∀ l, (∀ j, j ≤ l → c j = c' j) → prn c l = prn c' l
  | 0, h => rfl
  | l + 1, h => by
    unfold prn
    rw [h (l + 1) (by omega), h l (by omega), prn_congr l (fun j hj => h j (by omega))]
theorem lat_s (c : Nat → Nat) (i l : Nat) : lat c i (l + 1) = if c (l + 1) = i ∧ ¬ c (l + 1) = c l then ((l + 1 : Nat) : Int) else lat c i l := rfl
theorem prn_s (c : Nat → Nat) (l : Nat) : prn c (l + 1) = if c (l + 1) = c l then prn c l else prn c l + 1 := rfl
def WlkP (s : Sg) (q p b : Nat) (u : Pu) : Prop :=
  (s.2.1 q = some (8, 9) ∧ s.2.1 (q + 1) = some (11, 61) ∧ s.2.1 (q + 2) = some (11, 256) ∧ s.2.1 (q + 3) = some (11, 61)) ∧
  (s.2.2 q 0 = .int (iI p) ∧ s.2.2 q 1 = .int (iI b) ∧ s.2.2 q 2 = .ref (q + 1) ∧ s.2.2 q 3 = .ref (q + 2) ∧ s.2.2 q 4 = .ref (q + 3) ∧ s.2.2 q 6 = .int (iI u.1) ∧ s.2.2 q 7 = .int (iI (prn u.2.1 u.1)) ∧ s.2.2 q 8 = .int (iI 0)) ∧
  (∃ e, s.2.2 (q + 1) = iz e ∧ ∀ i, i ≤ u.1 → e i = u.2.1 i) ∧ (∃ e, s.2.2 (q + 2) = iz e ∧ ∀ i, i < 256 → e i = lat u.2.1 i u.1) ∧ IsI s (q + 3)
section X83
variable {n q p b : Nat} {s : Sg} {u : Pu} {A : AS}
theorem WlkP.same {s' : Sg} (h : WlkP s q p b u) (hs : s'.2.1 = s.2.1) (hm : ∀ j, j < 4 → s'.2.2 (q + j) = s.2.2 (q + j)) : WlkP s' q p b u := by
  have m0 : s'.2.2 q = s.2.2 q := hm 0 (by omega)
  have m1 := hm 1 (by omega)
  have m2 := hm 2 (by omega)
  have m3 := hm 3 (by omega)
  unfold WlkP IsI at h ⊢
  rw [hs, m0, m1, m2, m3]
  exact h
theorem x_come (h : WlkP s q p b u) (hl : u.1 < 60) (hc : u.2.1 u.1 < 256) {z : Nat} (hz : z < 256) (lc : Nat) (lf : Nat → Nat) : ∃ s', mX8_come n s q (iI (z : Int)) = some s' ∧ WlkP s' q p b (u.1 + 1, upN u.2.1 (u.1 + 1) z, lc, lf) ∧ s'.1 = s.1 ∧ s'.2.1 = s.2.1 ∧ ∀ a, a < q → s'.2.2 a = s.2.2 a := by
  obtain ⟨⟨s0, s1, s2, s3⟩, ⟨f0, f1, f2, f3, f4, f6, f7, f8⟩, ⟨e1, m1, c1⟩, ⟨e2, m2, c2⟩, e3, m3⟩ := h
  generalize hS3 : setF s q 6 (.int (iI ((u.1 : Int) + 1))) = S3
  have t0 : S3.2.1 q = some (8, 9) := by rw [← hS3]; exact s0
  have t1 : S3.2.1 (q + 1) = some (11, 61) := by rw [← hS3]; exact s1
  have a1 : S3.2.2 (q + 1) = iz e1 := by rw [← hS3, setF_ne _ _ _ (by omega)]; exact m1
  have b6 : S3.2.2 q 6 = .int (iI ((u.1 : Int) + 1)) := by rw [← hS3, setF_self]
  have b2 : S3.2.2 q 2 = .ref (q + 1) := by rw [← hS3, setF_k _ _ _ (by omega)]; exact f2
  have w1 : sV 11 S3 (q + 1) (iI ((u.1 : Int) + 1)) (.int (iI (z : Int))) = some (setA S3 (q + 1) (updZ e1 (u.1 + 1) z)) := by
    rw [sV_ok t1 a1 (by omega) (by omega) (by omega), show ((u.1 : Int) + 1).toNat = u.1 + 1 by omega]
  generalize hS6 : setA S3 (q + 1) (updZ e1 (u.1 + 1) z) = S6 at w1
  have r0 : S6.2.1 q = some (8, 9) := by rw [← hS6]; exact t0
  have r1 : S6.2.1 (q + 1) = some (11, 61) := by rw [← hS6]; exact t1
  have r2 : S6.2.1 (q + 2) = some (11, 256) := by rw [← hS6, ← hS3]; exact s2
  have d0 : S6.2.2 q = S3.2.2 q := by rw [← hS6, setA_ne _ _ (by omega)]
  have d1 : S6.2.2 (q + 1) = iz (updZ e1 (u.1 + 1) z) := by rw [← hS6, setA_self]
  have d2 : S6.2.2 (q + 2) = iz e2 := by rw [← hS6, setA_ne _ _ (by omega), ← hS3, setF_ne _ _ _ (by omega)]; exact m2
  have d3 : S6.2.2 (q + 3) = iz e3 := by rw [← hS6, setA_ne _ _ (by omega), ← hS3, setF_ne _ _ _ (by omega)]; exact m3
  have g6 : toI (gV 8 S6 q 6) = some (iI ((u.1 : Int) + 1)) := gI_ok r0 (by omega) (by rw [d0]; exact b6)
  have g2 : toR (gV 8 S6 q 2) = some (q + 1) := gR_ok r0 (by omega) (by rw [d0]; exact b2)
  have rd : toI (aV 11 S6 (q + 1) (iI ((u.1 : Int) + 1 - 1))) = some (iI (u.2.1 u.1 : Nat)) := by
    rw [aI_ok r1 d1 (by omega) (by omega) (by omega), show ((u.1 : Int) + 1 - 1).toNat = u.1 by omega]
    unfold updZ
    rw [if_neg (by omega), c1 u.1 (Nat.le_refl _)]
  have lowC : ∀ j, j ≤ u.1 → upN u.2.1 (u.1 + 1) z j = u.2.1 j := fun j hj => upN_ne _ _ (by omega)
  have cellsP : ∀ i, i ≤ u.1 + 1 → updZ e1 (u.1 + 1) z i = upN u.2.1 (u.1 + 1) z i := fun i hi => by
    unfold updZ upN
    by_cases c : i = u.1 + 1
    · rw [if_pos c, if_pos c]
    · rw [if_neg c, if_neg c]; exact c1 i (by omega)
  have old : ∀ k, k ≠ 6 → S3.2.2 q k = s.2.2 q k := fun k hk => by rw [← hS3, setF_k _ _ _ hk]
  have low6 : ∀ a, a < q → S6.2.2 a = s.2.2 a := fun a ha => by rw [← hS6, setA_ne _ _ (by omega), ← hS3, setF_ne _ _ _ (by omega)]
  have i1 : iI (u.1 : Int) + (1 : Int32) = iI ((u.1 : Int) + 1) := iI_s1 _
  have i2 : iI ((u.1 : Int) + 1) - (1 : Int32) = iI ((u.1 : Int) + 1 - 1) := by rw [iI_1, iI_sub]
  unfold mX8_come
  simp only [isO_ok s0, Option.bind_some, gI_ok s0 (show 6 < 9 by omega) f6, i1, pV_ok s0 (show 6 < 9 by omega), hS3, gR_ok t0 (show 2 < 9 by omega) b2, gI_ok t0 (show 6 < 9 by omega) b6, w1, g2, g6, i2, rd]
  rw [if_neg (by rw [iL, iI_le (by omega) (by omega)]; omega)]
  by_cases cz : z = u.2.1 u.1
  · rw [if_pos (by rw [cz])]
    refine ⟨S6, rfl, ⟨⟨r0, r1, r2, by rw [← hS6, ← hS3]; exact s3⟩, ⟨by rw [d0, old 0 (by omega)]; exact f0, by rw [d0, old 1 (by omega)]; exact f1, by rw [d0, old 2 (by omega)]; exact f2, by rw [d0, old 3 (by omega)]; exact f3, by rw [d0, old 4 (by omega)]; exact f4, by rw [d0]; exact b6, ?_, by rw [d0, old 8 (by omega)]; exact f8⟩, ⟨_, d1, cellsP⟩, ⟨e2, d2, fun i hi => ?_⟩, e3, d3⟩, by rw [← hS6, ← hS3]; rfl, by rw [← hS6, ← hS3]; rfl, low6⟩
    · rw [d0, old 7 (by omega), f7]
      show _ = Value.int (iI ((prn (upN u.2.1 (u.1 + 1) z) (u.1 + 1) : Nat) : Int))
      rw [prn_s, upN_self, lowC u.1 (Nat.le_refl _), if_pos cz, prn_congr u.1 lowC]
    · show e2 i = lat (upN u.2.1 (u.1 + 1) z) i (u.1 + 1)
      rw [lat_s, upN_self, lowC u.1 (Nat.le_refl _), if_neg (fun x => x.2 cz), lat_congr i u.1 lowC, c2 i hi]
  · have ne : ¬ iI (z : Int) = iI (u.2.1 u.1 : Nat) := by rw [iI_eq (by omega) (by omega)]; omega
    rw [if_neg ne]
    have g2' : toI (aV 11 S6 (q + 1) (iI ((u.1 : Int) + 1))) = some (iI (z : Int)) := by
      rw [aI_ok r1 d1 (by omega) (by omega) (by omega), show ((u.1 : Int) + 1).toNat = u.1 + 1 by omega]
      unfold updZ
      rw [if_pos rfl]
    have g3 : toR (gV 8 S6 q 3) = some (q + 2) := gR_ok r0 (by omega) (by rw [d0, old 3 (by omega)]; exact f3)
    have w2 : sV 11 S6 (q + 2) (iI (z : Int)) (.int (iI ((u.1 : Int) + 1))) = some (setA S6 (q + 2) (updZ e2 z ((u.1 : Int) + 1))) := by
      rw [sV_ok r2 d2 (by omega) (by omega) (by omega), show ((z : Int)).toNat = z by omega]
    generalize hS8 : setA S6 (q + 2) (updZ e2 z ((u.1 : Int) + 1)) = S8 at w2
    have v0 : S8.2.1 q = some (8, 9) := by rw [← hS8]; exact r0
    have h0 : S8.2.2 q = S3.2.2 q := by rw [← hS8, setA_ne _ _ (by omega), d0]
    have g7 : toI (gV 8 S8 q 7) = some (iI (prn u.2.1 u.1 : Nat)) := gI_ok v0 (by omega) (by rw [h0, old 7 (by omega)]; exact f7)
    unfold mX8_leavePrint
    simp only [isO_ok r0, Option.bind_some, g2, g6, g2', g3, w2, g7, iI_s1, pV_ok v0 (show 7 < 9 by omega)]
    rw [if_neg (by rw [iI_0, iI_lt (by omega) (by omega)]; omega), if_neg (by rw [iL, iI_le (by omega) (by omega)]; omega)]
    refine ⟨_, rfl, ⟨⟨v0, by rw [← hS8]; exact r1, by rw [← hS8]; exact r2, by rw [← hS8, ← hS6, ← hS3]; exact s3⟩, ⟨?_, ?_, ?_, ?_, ?_, ?_, ?_, ?_⟩, ⟨_, ?_, cellsP⟩, ⟨updZ e2 z ((u.1 : Int) + 1), ?_, fun i hi => ?_⟩, e3, ?_⟩, by rw [← hS8, ← hS6, ← hS3]; rfl, by rw [← hS8, ← hS6, ← hS3]; rfl, fun a ha => ?_⟩
    · rw [setF_k _ _ _ (by omega), h0, old 0 (by omega)]; exact f0
    · rw [setF_k _ _ _ (by omega), h0, old 1 (by omega)]; exact f1
    · rw [setF_k _ _ _ (by omega), h0, old 2 (by omega)]; exact f2
    · rw [setF_k _ _ _ (by omega), h0, old 3 (by omega)]; exact f3
    · rw [setF_k _ _ _ (by omega), h0, old 4 (by omega)]; exact f4
    · rw [setF_k _ _ _ (by omega), h0]; exact b6
    · rw [setF_self]
      show Value.int (iI (((prn u.2.1 u.1 : Nat) : Int) + 1)) = Value.int (iI ((prn (upN u.2.1 (u.1 + 1) z) (u.1 + 1) : Nat) : Int))
      rw [prn_s, upN_self, lowC u.1 (Nat.le_refl _), if_neg cz, prn_congr u.1 lowC]
      rfl
    · rw [setF_k _ _ _ (by omega), h0, old 8 (by omega)]; exact f8
    · rw [setF_ne _ _ _ (by omega), ← hS8, setA_ne _ _ (by omega)]; exact d1
    · rw [setF_ne _ _ _ (by omega), ← hS8, setA_self]
    · show updZ e2 z ((u.1 : Int) + 1) i = lat (upN u.2.1 (u.1 + 1) z) i (u.1 + 1)
      rw [lat_s, upN_self, lowC u.1 (Nat.le_refl _), lat_congr i u.1 lowC]
      unfold updZ
      by_cases ci : i = z
      · rw [if_pos ci, if_pos ⟨ci.symm, cz⟩]; rfl
      · rw [if_neg ci, if_neg (fun x => ci x.1.symm)]; exact c2 i hi
    · rw [setF_ne _ _ _ (by omega), ← hS8, setA_ne _ _ (by omega)]; exact d3
    · rw [setF_ne _ _ _ (by omega), ← hS8, setA_ne _ _ (by omega)]; exact low6 a ha
theorem x_comeEnd (h : WlkP s q p b u) (hl : u.1 = 60) (z : Int32) : mX8_come n s q z = some s := by
  obtain ⟨⟨s0, -⟩, ⟨f0, f1, f2, f3, f4, f6, -⟩, -⟩ := h
  unfold mX8_come
  simp only [isO_ok s0, Option.bind_some, gI_ok s0 (show 6 < 9 by omega) f6]
  rw [if_pos (by rw [iL, iI_le (by omega) (by omega)]; omega)]
end X83
