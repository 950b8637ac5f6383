/-! ===== the class: orders, from the call on ===== -/
section X73
variable {B n : Nat} {wa : Nat → Nat} {σ : Sg} {A : AS} {s : Sg}
theorem St.f29 (h : St B wa s A) {k : Nat} (hk : k = 1 ∨ k = 2 ∨ k = 3 ∨ k = 4) (v : Value) : St B wa (setF s (B + 29) k v) A ∧ Fr B s (setF s (B + 29) k v) := by
  have sj : sp 29 k = true := by rcases hk with rfl | rfl | rfl | rfl <;> rfl
  exact ⟨⟨h.1.fr (Fr.setF (by omega) sj), h.2.1.but rfl (fun r _ _ _ _ _ q _ _ _ => setF_ne _ _ _ (by omega)), h.2.2⟩, Fr.setF (by omega) sj⟩
theorem pow6 {k : Nat} (h : k ≤ 6) : 6 ^ k ≤ 46656 := by
  rcases (show k = 0 ∨ k = 1 ∨ k = 2 ∨ k = 3 ∨ k = 4 ∨ k = 5 ∨ k = 6 by omega) with rfl | rfl | rfl | rfl | rfl | rfl | rfl <;> decide
theorem x_rowSeek {S : Nat} {d : Nat → Int} {i : Int} (h : St B wa σ A) (h6 : wn A ≤ 6) (hN : NetAt σ (B + 6) (B + 7) (wn A + 1) d) (hB : NB (wn A + 1) (day A) (conR A S (fn A)) d) (hi : RI i) (hn : 100000 ≤ n) : ∃ s' D cs, mX6_seek n σ (B + 29) (B + 6) (iI (wn A)) (iI i) = some s' ∧ OW B wa σ A D 0 i cs s' ∧ Rl i cs (oE A S i (wn A) 0 (fun _ => 0) (0, -1)) := by
  have s29 : σ.2.1 (B + 29) = some (6, 5) := h.1.sh 29 (by omega)
  obtain ⟨a1, b1⟩ := h.f29 (k := 1) (by omega) (.int (iI (wn A)))
  obtain ⟨a2, b2⟩ := a1.f29 (k := 2) (by omega) (.int (iI i))
  obtain ⟨a3, b3⟩ := a2.f29 (k := 3) (by omega) (.int (iI ((0 : Nat) : Int)))
  obtain ⟨a4, b4⟩ := a3.f29 (k := 4) (by omega) (.int (iI (-1)))
  have F4 := ((b1.trans b2).trans b3).trans b4
  generalize hs4 : setF (setF (setF (setF σ (B + 29) 1 (.int (iI (wn A)))) (B + 29) 2 (.int (iI i))) (B + 29) 3 (.int (iI ((0 : Nat) : Int)))) (B + 29) 4 (.int (iI (-1))) = s4 at a4 F4
  have n4 : ∀ a, a ≠ B + 29 → s4.2.2 a = σ.2.2 a := fun a ha => by rw [← hs4, setF_ne _ _ _ ha, setF_ne _ _ _ ha, setF_ne _ _ _ ha, setF_ne _ _ _ ha]
  have sh4 : s4.2.1 = σ.2.1 := by rw [← hs4]; rfl
  have N4 : NetAt s4 (B + 6) (B + 7) (wn A + 1) d := hN.same sh4 (n4 _ (by omega)) (n4 _ (by omega))
  have v1 : s4.2.2 (B + 29) 1 = .int (iI (wn A)) := by rw [← hs4, setF_k _ _ _ (by omega), setF_k _ _ _ (by omega), setF_k _ _ _ (by omega), setF_self]
  have v2 : s4.2.2 (B + 29) 2 = .int (iI i) := by rw [← hs4, setF_k _ _ _ (by omega), setF_k _ _ _ (by omega), setF_self]
  have v3 : s4.2.2 (B + 29) 3 = .int (iI ((0 : Nat) : Int)) := by rw [← hs4, setF_k _ _ _ (by omega), setF_self]
  have v4 : s4.2.2 (B + 29) 4 = .int (iI (-1)) := by rw [← hs4, setF_self]
  have hr : nr 31 := Or.inr ⟨0, by omega, rfl⟩
  obtain ⟨p, e0, hp, hN0, hb0⟩ := a4.2.1.at hr
  have c1 := net_copy (n := n) hN0 N4 (by omega) (by omega)
  have B2 := cpd_NB hB (by omega) hb0
  have O5 : OW B wa σ A (fun _ => cpd d e0) 0 i (0, -1) (nn B s4 31 (wn A + 1) (cpd d e0)) := by
    refine ⟨a4.nn hr hN0 (by omega) B2.2.2, F4.trans (nn_fr hr), fun k hk _ => ?_, ?_, ?_, ?_, ?_⟩
    · have k0 : k = 0 := by omega
      subst k0
      exact nn_net hN0
    · rw [nn_ne (by omega) (by omega)]; exact v1
    · rw [nn_ne (by omega) (by omega)]; exact v2
    · rw [nn_ne (by omega) (by omega)]; exact v3
    · rw [nn_ne (by omega) (by omega)]; exact v4
  have fe : feas A S (fun _ => 0) 0 := ⟨mat d, (CM.iff (fun i j v => ordR_1 (by omega) i j v) _).mpr hB.1.1⟩
  have p6 := pow6 h6
  obtain ⟨s', cs, r1, O', R'⟩ := x_extend (n := n) h6 S hi hn 9 (wn A) 0 (fun _ => 0) (fun _ => cpd d e0) (0, -1) _ (0 : Int32) (by omega) (by omega) (fun t ht => by omega) fe O5 (fun _ => B2.iff (fun i j v => (ordR_1 (by omega) i j v).symm))
    (fun y hy => by
      constructor
      · intro q
        have z : un (0 : Int32) = 0 := rfl
        rw [z] at q
        unfold bt at q
        rw [Nat.zero_div] at q
        omega
      · rintro ⟨a, q, -⟩; omega) rfl (by show 0 + 6 ^ wn A ≤ 100000; omega)
  refine ⟨s', _, cs, ?_, O', R'⟩
  have r1' : mX6_extend n 9 (nn B s4 31 (wn A + 1) (cpd d e0)) (B + 29) (0 : Int32) (0 : Int32) (0 : Int32) = some s' := r1
  have q31 : toQ (aV 15 s4 (B + 30) (0 : Int32)) = some (some (B + 31)) := a4.1.onet (k := 0) (by omega)
  have t29 : s4.2.1 (B + 29) = some (6, 5) := a4.1.sh 29 (by omega)
  have w1 : pV 6 σ (B + 29) 1 (.int (iI (wn A))) = some (setF σ (B + 29) 1 (.int (iI (wn A)))) := pV_ok s29 (by omega)
  have w2 : pV 6 (setF σ (B + 29) 1 (.int (iI (wn A)))) (B + 29) 2 (.int (iI i)) = some (setF (setF σ (B + 29) 1 (.int (iI (wn A)))) (B + 29) 2 (.int (iI i))) := pV_ok (show _ = some (6, 5) from s29) (by omega)
  have w3 : pV 6 (setF (setF σ (B + 29) 1 (.int (iI (wn A)))) (B + 29) 2 (.int (iI i))) (B + 29) 3 (.int (0 : Int32)) = some (setF (setF (setF σ (B + 29) 1 (.int (iI (wn A)))) (B + 29) 2 (.int (iI i))) (B + 29) 3 (.int (iI ((0 : Nat) : Int)))) := pV_ok (show _ = some (6, 5) from s29) (by omega)
  have w4 : pV 6 (setF (setF (setF σ (B + 29) 1 (.int (iI (wn A)))) (B + 29) 2 (.int (iI i))) (B + 29) 3 (.int (iI ((0 : Nat) : Int)))) (B + 29) 4 (.int (-1 : Int32)) = some s4 := by
    rw [← hs4]
    exact pV_ok (show _ = some (6, 5) from s29) (by omega)
  unfold mX6_seek
  simp only [isO_ok s29, Option.bind_some, jmin_6 h6, w1, w2, w3, w4, gR_ok t29 (show 0 < 5 by omega) (a4.1.pt 19 rfl), q31, c1, r1']
def FOrd (A : AS) (x : Int32) (i : Int) (X : Nat → Nat → Int) (r : Int) : Prop := r = if i = -1 then ((oE A (un x) i (wn A) 0 (fun _ => 0) (0, -1)).1 : Int) else (oE A (un x) i (wn A) 0 (fun _ => 0) (0, -1)).2
theorem x_orders (h : St B wa σ A) (x : Int32) {i : Int} (hi : RI i) (hn : 100000 ≤ n) : ∃ r σ', mX9_orders n σ B x (iI i) = some (iI r, σ') ∧ St B wa σ' A ∧ Fr B σ σ' ∧ Two (-1 ≤ i ∧ wn A ≤ 6) (-1) (Qry A x (-1) (FOrd A x i)) r := by
  obtain ⟨hC, hS, hA⟩ := id h
  have h8 := hA.2.2.1.1
  have hi' := hi
  unfold RI at hi'
  unfold mX9_orders
  simp only [hC.o, Option.bind_some, hC.qwn]
  by_cases c0 : i < -1
  · rw [if_pos (by rw [iI_m1, iI_lt (by omega) (by omega)]; exact c0)]
    exact ⟨-1, σ, rfl, h, Fr.refl B σ, Or.inl ⟨by omega, rfl⟩⟩
  · rw [if_neg (by rw [iI_m1, iI_lt (by omega) (by omega)]; exact c0)]
    by_cases c : wn A ≤ 6
    · rw [if_neg (by rw [iL, iI_lt (by omega) (by omega)]; omega)]
      obtain ⟨r, σ', q1, q2, q3, q4⟩ := qry_step (n := n) h x hn (no := -1) (F := FOrd A x i) (cont := fun q => if q.1 = 0 then some ((-1 : Int32), q.2) else (toR (gV 9 q.2 B 14)).bind fun b5 => (toR (gV 9 q.2 B 11)).bind fun b6 => (toI (gV 9 q.2 B 6)).bind fun v7 => (mX6_seek n q.2 b5 b6 v7 (iI i)).bind fun s8 => if iI i = (-1 : Int32) then ((toR (gV 9 s8 B 14)).bind fun b11 => (toI (gV 6 s8 b11 3)).bind fun v12 => some (v12, s8)) else ((toR (gV 9 s8 B 14)).bind fun b9 => (toI (gV 6 s8 b9 4)).bind fun v10 => some (v10, s8))) (fun s => rfl) (fun d p e hN hB hd => by
        have hNd := dn_net hC (d := d) hN
        have hC' := (h.dn hd).1
        obtain ⟨s', D, cs, k1, k2, k3⟩ := x_rowSeek (n := n) (h.dn hd) c hNd hB hi hn
        simp only [if_neg (show ¬ (1 : Int32) = 0 by decide), hC'.r14, hC'.r11, hC'.qwn, Option.bind_some, k1, k2.1.1.r14, gI_ok k2.o (show 3 < 5 by omega) k2.2.2.2.2.2.1, gI_ok k2.o (show 4 < 5 by omega) k2.2.2.2.2.2.2]
        by_cases c1 : i = -1
        · rw [if_pos (by rw [c1]; rfl)]
          refine ⟨_, _, rfl, k2.1, (dn_fr d).trans k2.2.1, ?_⟩
          have nf := (oE_found (A := A) (S := un x) (wt := i) (wn A) 0 (fun _ => 0) (0, -1) (-1) rfl (by show i < ((0 : Nat) : Int); omega)).1
          unfold FOrd
          rw [if_pos c1, ← k3.2.1 nf]
        · rw [if_neg (fun q => c1 ((c_eqm hi).mp q))]
          refine ⟨_, _, rfl, k2.1, (dn_fr d).trans k2.2.1, ?_⟩
          unfold FOrd
          rw [if_neg c1, k3.1])
      exact ⟨r, σ', q1, q2, q3, Or.inr ⟨⟨by omega, c⟩, q4⟩⟩
    · rw [if_pos (by rw [iL, iI_lt (by omega) (by omega)]; omega)]
      exact ⟨-1, σ, rfl, h, Fr.refl B σ, Or.inl ⟨fun q => c q.2, rfl⟩⟩
end X73
