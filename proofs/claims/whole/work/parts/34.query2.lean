/-! ===== more queries of a net ===== -/
section X34
variable {B n : Nat} {wa : Nat → Nat} {σ : Sg} {A : AS}
theorem qry_step (h : St B wa σ A) (x : Int32) (hn : 100000 ≤ n) {no : Int} {F : (Nat → Nat → Int) → Int → Prop} {cont : Int32 × Sg → Option (Int32 × Sg)} (hno : ∀ s, cont (0, s) = some (iI no, s))
    (hyes : ∀ d p e, NetAt σ (B + 6) (B + 7) p e → NB (wn A + 1) (day A) (conR A (un x) (fn A)) d → Bs d → ∃ r σ', cont (1, dn B σ A d) = some (iI r, σ') ∧ St B wa σ' A ∧ Fr B σ σ' ∧ F (mat d) r) :
    ∃ r σ', (mX9_canBe n σ B x).bind cont = some (iI r, σ') ∧ St B wa σ' A ∧ Fr B σ σ' ∧ Qry A x no F r := by
  obtain ⟨⟨p, e, hp, hN, hB⟩, -⟩ := h.2.1
  rcases x_canBe (n := n) h x hn with ⟨k1, k2⟩ | ⟨k1, d, hd, ⟨k2, k3⟩ | ⟨k2, k3⟩⟩
  · rw [k2]
    exact ⟨no, σ, hno σ, h, Fr.refl B σ, Or.inr ⟨Or.inl k1, rfl⟩⟩
  · rw [k2]
    obtain ⟨r, σ', q1, q2, q3, q4⟩ := hyes d p e hN k3 hd
    exact ⟨r, σ', q1, q2, q3, Or.inl ⟨k1, mat d, k3.1, q4⟩⟩
  · rw [k2]
    exact ⟨no, _, hno _, h.dn hd, dn_fr d, Or.inr ⟨Or.inr k3, rfl⟩⟩
def Two (P : Prop) (no : Int) (R : Int → Prop) (r : Int) : Prop := (¬ P ∧ r = no) ∨ (P ∧ R r)
theorem Two.unique {P : Prop} {no : Int} {R : Int → Prop} {r r' : Int} (hR : P → R r → R r' → r = r') (h : Two P no R r) (h' : Two P no R r') : r = r' := by
  rcases h with ⟨a, b⟩ | ⟨a, b⟩ <;> rcases h' with ⟨c, d⟩ | ⟨c, d⟩
  · omega
  · exact absurd c a
  · exact absurd a c
  · exact hR a b d
/-- what gap asks of the matrix -/
def FGap (a b what : Int) (X : Nat → Nat → Int) (r : Int) : Prop := r = if what = 0 then X (a.toNat + 1) (b.toNat + 1) else -X (b.toNat + 1) (a.toNat + 1)
theorem x_gap (h : St B wa σ A) (x : Int32) {a b what : Int} (ha : RI a) (hb : RI b) (hq : RI what) (hn : 100000 ≤ n) : ∃ r σ', mX9_gap n σ B x (iI a) (iI b) (iI what) = some (iI r, σ') ∧ St B wa σ' A ∧ Fr B σ σ' ∧ Two ((0 ≤ what ∧ what ≤ 1) ∧ isW A a ∧ isW A b) (-100000) (Qry A x (-100000) (FGap a b what)) r := by
  obtain ⟨hC, hS, hA⟩ := id h
  have h8 := hA.2.2.1.1
  unfold mX9_gap
  have hno : ∀ s, mX9_gap_31 n s B x (iI a) (iI b) (iI what) = some (iI (-100000), s) := fun s => by simp only [mX9_gap_31, mX9_gap_32, mX9_gap_47, if_pos]; rfl
  simp only [hC.o, Option.bind_some, x_walkOf hC hA ha, x_walkOf hC hA hb]
  by_cases c0 : what < 0
  · rw [if_pos ((c_lt0 hq).mpr c0), hno]
    exact ⟨-100000, σ, rfl, h, Fr.refl B σ, Or.inl ⟨by omega, rfl⟩⟩
  · rw [if_neg (fun q => c0 ((c_lt0 hq).mp q))]
    by_cases c1 : 1 < what
    · rw [if_pos ((c_Llt 1 (by omega) hq).mpr c1), hno]
      exact ⟨-100000, σ, rfl, h, Fr.refl B σ, Or.inl ⟨by omega, rfl⟩⟩
    · rw [if_neg (fun q => c1 ((c_Llt 1 (by omega) hq).mp q))]
      by_cases c2 : 0 ≤ a ∧ a < wn A
      · simp only [if_pos c2, x_walkOf hC hA hb, Option.bind_some]
        by_cases c3 : 0 ≤ b ∧ b < wn A
        · simp only [if_pos c3]
          obtain ⟨v, v1, v2, v3⟩ := isW.nat c2
          obtain ⟨w, w1, w2, w3⟩ := isW.nat c3
          obtain ⟨r, σ', q1, q2, q3, q4⟩ := qry_step (n := n) h x hn (no := -100000) (F := FGap a b what) (cont := fun (v2, s1) => if v2 = 0 then mX9_gap_47 n s1 else if iI what = 0 then (toR (gV 9 s1 B 11)).bind fun b8 => (mX4_leastGap n s1 b8 (iI a) (iI b)).bind fun (v10, s9) => some (v10, s9) else (toR (gV 9 s1 B 11)).bind fun b4 => (mX4_greatestGap n s1 b4 (iI a) (iI b)).bind fun (v6, s5) => some (v6, s5)) (fun s => rfl) (fun d p e hN hB hd => by
            have hC' := (h.dn hd).1
            have hNd := dn_net hC (d := d) hN
            simp only [if_neg (show ¬ (1 : Int32) = 0 by decide), hC'.r11, Option.bind_some, v2, w2, net_leastGap hNd (show wn A + 1 ≤ 9 by omega) (show v + 1 < wn A + 1 by omega) (show w + 1 < wn A + 1 by omega), net_greatestGap hNd (show wn A + 1 ≤ 9 by omega) (show v + 1 < wn A + 1 by omega) (show w + 1 < wn A + 1 by omega)]
            by_cases c4 : what = 0
            · rw [if_pos ((c_eq0 hq).mpr c4)]
              exact ⟨_, _, rfl, h.dn hd, dn_fr d, by unfold FGap; rw [if_pos c4]; rfl⟩
            · rw [if_neg (fun q => c4 ((c_eq0 hq).mp q))]
              exact ⟨_, _, rfl, h.dn hd, dn_fr d, by unfold FGap; rw [if_neg c4]; rfl⟩)
          exact ⟨r, σ', q1, q2, q3, Or.inr ⟨⟨by omega, c2, c3⟩, q4⟩⟩
        · simp only [if_neg c3, hno]
          exact ⟨-100000, σ, rfl, h, Fr.refl B σ, Or.inl ⟨fun q => c3 q.2.2, rfl⟩⟩
      · simp only [if_neg c2, hno]
        exact ⟨-100000, σ, rfl, h, Fr.refl B σ, Or.inl ⟨fun q => c2 q.2.1, rfl⟩⟩
/-- 1 for sure, 0 for sure not, -1 open -/
def verd (X : Nat → Nat → Int) (a b : Nat) (lead : Int) : Int := if lead ≤ X (b + 1) (a + 1) then 1 else if -X (a + 1) (b + 1) < lead then 0 else -1
theorem x_verdict (h : St B wa σ A) {d : Nat → Int} {p a b : Nat} {lead : Int} (hN : NetAt σ (B + 6) (B + 7) p d) (hd : Bs d) (hp : p ≤ 9) (ha : a + 1 < p) (hb : b + 1 < p) (hl : RI lead) : mX9_verdict n σ B (iI a) (iI b) (iI lead) = some (iI (verd (mat d) a b lead), σ) := by
  have b1 := hd ((b + 1) * 9 + (a + 1))
  have b2 := hd ((a + 1) * 9 + (b + 1))
  have e1 : mat d (b + 1) (a + 1) = d ((b + 1) * 9 + (a + 1)) := rfl
  have e2 : mat d (a + 1) (b + 1) = d ((a + 1) * 9 + (b + 1)) := rfl
  have r1 : RI (mat d (b + 1) (a + 1)) := RI.sm (by omega) (by omega)
  have r2 : RI (-mat d (a + 1) (b + 1)) := RI.sm (by omega) (by omega)
  unfold mX9_verdict verd
  simp only [h.1.o, Option.bind_some, h.1.r11, net_leastGap hN hp hb ha, net_greatestGap hN hp hb ha]
  by_cases c0 : lead ≤ mat d (b + 1) (a + 1)
  · rw [if_pos c0, if_neg (fun q => by have := (c_lt r1 hl).mp q; omega)]; rfl
  · rw [if_neg c0, if_pos ((c_lt r1 hl).mpr (by omega))]
    by_cases c1 : -mat d (a + 1) (b + 1) < lead
    · rw [if_pos c1, if_neg (fun q => by have := (c_le hl r2).mp q; omega)]; rfl
    · rw [if_neg c1, if_pos ((c_le hl r2).mpr (by omega))]; rfl
def FAhead (a b : Int) (X : Nat → Nat → Int) (r : Int) : Prop := r = verd X b.toNat a.toNat 1
theorem x_ahead (h : St B wa σ A) (x : Int32) {a b : Int} (ha : RI a) (hb : RI b) (hn : 100000 ≤ n) : ∃ r σ', mX9_ahead n σ B x (iI a) (iI b) = some (iI r, σ') ∧ St B wa σ' A ∧ Fr B σ σ' ∧ Two (isW A a ∧ isW A b) (-1) (Qry A x (-1) (FAhead a b)) r := by
  obtain ⟨hC, hS, hA⟩ := id h
  have h8 := hA.2.2.1.1
  unfold mX9_ahead
  simp only [hC.o, Option.bind_some, x_walkOf hC hA ha, x_walkOf hC hA hb]
  by_cases c2 : 0 ≤ a ∧ a < wn A
  · simp only [if_pos c2, x_walkOf hC hA hb, Option.bind_some]
    by_cases c3 : 0 ≤ b ∧ b < wn A
    · simp only [if_pos c3]
      obtain ⟨v, v1, v2, v3⟩ := isW.nat c2
      obtain ⟨w, w1, w2, w3⟩ := isW.nat c3
      obtain ⟨r, σ', q1, q2, q3, q4⟩ := qry_step (n := n) h x hn (no := -1) (F := FAhead a b) (cont := fun (v8, s7) => if v8 = 0 then some ((-1 : Int32), s7) else (mX9_verdict n s7 B (iI b) (iI a) (1 : Int32)).bind fun (v11, s10) => some (v11, s10)) (fun s => rfl) (fun d p e hN hB hd => by
        have hNd := dn_net hC (d := d) hN
        have hv := x_verdict (n := n) (h.dn hd) hNd hd (a := w) (b := v) (lead := 1) (by omega) (by omega) (by omega) (RI.sm (by omega) (by omega))
        simp only [if_neg (show ¬ (1 : Int32) = 0 by decide), v2, w2, iI_1, hv, Option.bind_some]
        exact ⟨_, _, rfl, h.dn hd, dn_fr d, by unfold FAhead; simp⟩)
      exact ⟨r, σ', q1, q2, q3, Or.inr ⟨⟨c2, c3⟩, q4⟩⟩
    · simp only [if_neg c3]
      exact ⟨-1, σ, rfl, h, Fr.refl B σ, Or.inl ⟨fun q => c3 q.2, rfl⟩⟩
  · simp only [if_neg c2]
    exact ⟨-1, σ, rfl, h, Fr.refl B σ, Or.inl ⟨fun q => c2 q.1, rfl⟩⟩
def FSure (A : AS) (a b c : Int) (X : Nat → Nat → Int) (r : Int) : Prop := r = verd X a.toNat b.toNat (mad (wk A b.toNat) c - mad (wk A a.toNat) c + 1)
theorem x_sure (h : St B wa σ A) (x : Int32) {a b y z : Int} (ha : RI a) (hb : RI b) (hy : RI y) (hz : RI z) (hn : 100000 ≤ n) : ∃ r σ', mX9_sure n σ B x (iI a) (iI b) (iI y) (iI z) = some (iI r, σ') ∧ St B wa σ' A ∧ Fr B σ σ' ∧ Two (crs A a b (cAt A y z)) (-1) (Qry A x (-1) (FSure A a b (cAt A y z))) r := by
  obtain ⟨hC, hS, hA⟩ := id h
  have h8 := hA.2.2.1.1
  have hc := cAt_RI A hA y z
  have rc : RI (cAt A y z) := RI.sm (by omega) (by omega)
  unfold mX9_sure
  simp only [hC.o, Option.bind_some, x_cellAt hC hA hy hz, x_isCrossing hC hA ha hb rc]
  by_cases c2 : crs A a b (cAt A y z)
  · simp only [if_pos c2]
    rw [if_neg (by decide)]
    obtain ⟨v, v1, v2, v3⟩ := isW.nat c2.2.1.1
    obtain ⟨w, w1, w2, w3⟩ := isW.nat c2.2.2.1
    have m1 := mad_R A (hA.2.2.1.2 v v1) (cAt A y z)
    have m2 := mad_R A (hA.2.2.1.2 w w1) (cAt A y z)
    obtain ⟨r, σ', q1, q2, q3, q4⟩ := qry_step (n := n) h x hn (no := -1) (F := FSure A a b (cAt A y z)) (cont := fun (v8, s7) => if v8 = 0 then some ((-1 : Int32), s7) else (mX9_leadToLieAbove n s7 B (iI a) (iI b) (iI (cAt A y z))).bind fun (v11, s10) => (mX9_verdict n s10 B (iI a) (iI b) v11).bind fun (v14, s13) => some (v14, s13)) (fun s => rfl) (fun d p e hN hB hd => by
      have hNd := dn_net hC (d := d) hN
      have hl := x_lead (n := n) (h.dn hd).1 hA c2.2.1.1 c2.2.2.1 rc
      have hv := x_verdict (n := n) (h.dn hd) hNd hd (a := v) (b := w) (lead := mad (wk A b.toNat) (cAt A y z) - mad (wk A a.toNat) (cAt A y z) + 1) (by omega) (by omega) (by omega) (by rw [w3, v3]; exact RI.sm (by omega) (by omega))
      simp only [if_neg (show ¬ (1 : Int32) = 0 by decide), hl, Option.bind_some]
      rw [← v2, ← w2] at hv
      simp only [hv, Option.bind_some]
      exact ⟨_, _, rfl, h.dn hd, dn_fr d, by unfold FSure; rw [v3, w3]⟩)
    exact ⟨r, σ', q1, q2, q3, Or.inr ⟨c2, q4⟩⟩
  · simp only [if_neg c2]
    rw [if_pos trivial]
    exact ⟨-1, σ, rfl, h, Fr.refl B σ, Or.inl ⟨c2, rfl⟩⟩
end X34
