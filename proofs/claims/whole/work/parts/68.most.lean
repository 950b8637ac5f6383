/-! ===== the class: walkers, from the call on ===== -/
section X68
variable {B n : Nat} {wa : Nat → Nat} {σ : Sg} {A : AS} {s : Sg}
theorem St.s13 (h : St B wa s A) (e : Nat → Int) : St B wa (setA s (B + 13) e) A ∧ Fr B s (setA s (B + 13) e) := by
  obtain ⟨hC, ⟨a, b, c, a1, a2, a3, a4, a5, a6, a7, a8, a9⟩, hA⟩ := h
  have F : Fr B s (setA s (B + 13) e) := Fr.setA (by omega) (fun _ => rfl)
  exact ⟨⟨hC.fr F, ⟨a.same rfl (setA_ne _ _ (by omega)) (setA_ne _ _ (by omega)), fun k hk => (b k hk).same rfl (setA_ne _ _ (by omega)) (setA_ne _ _ (by omega)), fun k hk => (c k hk).same rfl (setA_ne _ _ (by omega)) (setA_ne _ _ (by omega)), a1.same (setA_ne _ _ (by omega)), a2.same (setA_ne _ _ (by omega)), ⟨e, setA_self _ _ _⟩, a4.same (setA_ne _ _ (by omega)), a5.same (setA_ne _ _ (by omega)), a6.same (setA_ne _ _ (by omega)), a7.same (setA_ne _ _ (by omega)), a8.same (setA_ne _ _ (by omega)), a9.same (setA_ne _ _ (by omega))⟩, hA⟩, F⟩
theorem St.s14 (h : St B wa s A) (e : Nat → Int) : St B wa (setA s (B + 14) e) A ∧ Fr B s (setA s (B + 14) e) := by
  obtain ⟨hC, ⟨a, b, c, a1, a2, a3, a4, a5, a6, a7, a8, a9⟩, hA⟩ := h
  have F : Fr B s (setA s (B + 14) e) := Fr.setA (by omega) (fun _ => rfl)
  exact ⟨⟨hC.fr F, ⟨a.same rfl (setA_ne _ _ (by omega)) (setA_ne _ _ (by omega)), fun k hk => (b k hk).same rfl (setA_ne _ _ (by omega)) (setA_ne _ _ (by omega)), fun k hk => (c k hk).same rfl (setA_ne _ _ (by omega)) (setA_ne _ _ (by omega)), a1.same (setA_ne _ _ (by omega)), a2.same (setA_ne _ _ (by omega)), a3.same (setA_ne _ _ (by omega)), ⟨e, setA_self _ _ _⟩, a5.same (setA_ne _ _ (by omega)), a6.same (setA_ne _ _ (by omega)), a7.same (setA_ne _ _ (by omega)), a8.same (setA_ne _ _ (by omega)), a9.same (setA_ne _ _ (by omega))⟩, hA⟩, F⟩
theorem jmin_6 {w : Nat} (h : w ≤ 6) : jmin (iI (w : Int)) (6 : Int32) = iI (w : Int) := by
  unfold jmin
  rw [if_neg (by rw [iL, iI_lt (by omega) (by omega)]; omega)]
theorem lkR_none {S : Nat} (i j : Nat) (v : Int) : lkR A S (fun _ => none) 0 i j v ↔ conR A S (fn A) i j v := by
  unfold lkR
  constructor
  · rintro (q | ⟨a, b, q, -⟩)
    · exact q
    · omega
  · exact Or.inl
/-- a world of the filling of boots and lengths -/
def BW8 (B : Nat) (wa : Nat → Nat) (σ : Sg) (A : AS) (d : Nat → Int) (t : Nat) (s : Sg) : Prop :=
  St B wa s A ∧ Fr B σ s ∧ NetAt s (B + 6) (B + 7) (wn A + 1) d ∧ s.2.2 (B + 11) 3 = .int (iI (wn A)) ∧ (∃ e, s.2.2 (B + 13) = iz e ∧ ∀ w, w < t → e w = wboot (wk A w)) ∧ ∃ e, s.2.2 (B + 14) = iz e ∧ ∀ w, w < t → e w = wend (wk A w)
theorem x_fill {d : Nat → Int} {t : Nat} (h : BW8 B wa σ A d t s) (h6 : wn A ≤ 6) (ht : t < wn A) : ∃ s', mX0_mostLinks_L13 n (B + 11) (B + 3) (s, iI (t : Int)) = some (.inl (s', iI ((t + 1 : Nat) : Int))) ∧ BW8 B wa σ A d (t + 1) s' := by
  obtain ⟨h1, h2, h3, h4, ⟨e1, h5, h5'⟩, e2, h7, h7'⟩ := h
  have s11 : s.2.1 (B + 11) = some (0, 5) := h1.1.sh 11 (by omega)
  have s3 : s.2.1 (B + 3) = some (13, 8) := h1.1.sh 3 (by omega)
  have s13 : s.2.1 (B + 13) = some (11, 6) := h1.1.sh 13 (by omega)
  have hW := h1.1.walkAt ht
  obtain ⟨k1, f1⟩ := h1.s13 (updZ e1 t (wboot (wk A t)))
  have hW1 := k1.1.walkAt ht
  have t14 : (setA s (B + 13) (updZ e1 t (wboot (wk A t)))).2.1 (B + 14) = some (11, 6) := k1.1.sh 14 (by omega)
  have m14 : (setA s (B + 13) (updZ e1 t (wboot (wk A t)))).2.2 (B + 14) = iz e2 := by rw [setA_ne _ _ (by omega)]; exact h7
  obtain ⟨k2, f2⟩ := k1.s14 (updZ e2 t (wend (wk A t)))
  refine ⟨setA (setA s (B + 13) (updZ e1 t (wboot (wk A t)))) (B + 14) (updZ e2 t (wend (wk A t))), ?_, k2, (h2.trans f1).trans f2, h3.same rfl ?_ ?_, ?_, ⟨updZ e1 t (wboot (wk A t)), ?_, fun w hw => ?_⟩, updZ e2 t (wend (wk A t)), setA_self _ _ _, fun w hw => ?_⟩
  · have w1 : sV 11 s (B + 13) (iI (t : Int)) (.int (iI (wboot (wk A t)))) = some (setA s (B + 13) (updZ e1 t (wboot (wk A t)))) := by
      rw [sV_ok s13 h5 (by omega) (by omega) (by omega), show ((t : Int)).toNat = t by omega]
    have w2 : sV 11 (setA s (B + 13) (updZ e1 t (wboot (wk A t)))) (B + 14) (iI (t : Int)) (.int (iI (wend (wk A t)))) = some (setA (setA s (B + 13) (updZ e1 t (wboot (wk A t)))) (B + 14) (updZ e2 t (wend (wk A t)))) := by
      rw [sV_ok t14 m14 (by omega) (by omega) (by omega), show ((t : Int)).toNat = t by omega]
    have t11 : (setA s (B + 13) (updZ e1 t (wboot (wk A t)))).2.1 (B + 11) = some (0, 5) := k1.1.sh 11 (by omega)
    simp only [mX0_mostLinks_L13, gI_ok s11 (show 3 < 5 by omega) h4, Option.bind_some, lenA_ok s3, h1.1.walk h1.2.2 ht, gR_ok s11 (show 1 < 5 by omega) (h1.1.pt 17 rfl), gI_ok hW.1.1 (show 1 < 9 by omega) hW.2.1.2.1, w1, gR_ok t11 (show 2 < 5 by omega) (k1.1.pt 18 rfl), w_end hW1, w2, mX0_mostLinks_64, pt1]
    rw [if_neg (by rw [iI_le (by omega) (by omega)]; omega), if_neg (by rw [iI_le (by omega) (by omega)]; omega)]
  · rw [setA_ne _ _ (by omega), setA_ne _ _ (by omega)]
  · rw [setA_ne _ _ (by omega), setA_ne _ _ (by omega)]
  · rw [setA_ne _ _ (by omega), setA_ne _ _ (by omega)]; exact h4
  · rw [setA_ne _ _ (by omega)]; exact setA_self _ _ _
  · unfold updZ
    by_cases z : w = t
    · rw [if_pos z, z]
    · rw [if_neg z]; exact h5' w (by omega)
  · unfold updZ
    by_cases z : w = t
    · rw [if_pos z, z]
    · rw [if_neg z]; exact h7' w (by omega)
theorem x_fills {d : Nat → Int} (h : BW8 B wa σ A d 0 s) (h6 : wn A ≤ 6) (hn : 100000 ≤ n) : ∃ s', loopM (mX0_mostLinks_L13 n (B + 11) (B + 3)) n (s, (0 : Int32)) = some s' ∧ BW8 B wa σ A d (wn A) s' := by
  refine loop_inv (body := mX0_mostLinks_L13 n (B + 11) (B + 3)) (fun c => ∃ t : Nat, c.2 = iI (t : Int) ∧ t ≤ wn A ∧ BW8 B wa σ A d t c.1) (fun c => wn A - c.2.toNatClampNeg) (fun s => BW8 B wa σ A d (wn A) s) ?_ n (s, (0 : Int32)) ⟨0, rfl, by omega, h⟩ (by show wn A - (0 : Int32).toNatClampNeg < n; omega)
  rintro ⟨s1, x1⟩ ⟨t, hx, ht, hb⟩
  simp only at hx hb
  subst hx
  by_cases ct : t = wn A
  · subst ct
    refine Or.inr ⟨s1, ?_, hb⟩
    have s11 : s1.2.1 (B + 11) = some (0, 5) := hb.1.1.sh 11 (by omega)
    simp only [mX0_mostLinks_L13, gI_ok s11 (show 3 < 5 by omega) hb.2.2.2.1, Option.bind_some]
    rw [if_pos (by rw [iI_le (by omega) (by omega)]; omega)]
  · obtain ⟨s', q1, q2⟩ := x_fill (n := n) hb h6 (show t < wn A by omega)
    refine Or.inl ⟨_, q1, ⟨t + 1, rfl, by omega, q2⟩, ?_⟩
    show wn A - (iI ((t + 1 : Nat) : Int)).toNatClampNeg < wn A - (iI (t : Int)).toNatClampNeg
    rw [iI_clamp (by omega) (by omega), iI_clamp (by omega) (by omega)]
    omega
theorem x_mostLinks {S : Nat} {d : Nat → Int} (h : St B wa σ A) (h6 : wn A ≤ 6) (hN : NetAt σ (B + 6) (B + 7) (wn A + 1) d) (hB : NB (wn A + 1) (day A) (conR A S (fn A)) d) (hn : 100000 ≤ n) : ∃ (k : Nat) (s' : Sg), mX0_mostLinks n σ (B + 11) (B + 6) (B + 3) (iI (wn A)) = some (iI (k : Int), s') ∧ St B wa s' A ∧ Fr B σ s' ∧ k ≤ 6 ∧ Most A S k := by
  have s11 : σ.2.1 (B + 11) = some (0, 5) := h.1.sh 11 (by omega)
  obtain ⟨e1, i1⟩ := h.2.1.2.2.2.2.2.1
  obtain ⟨e2, i2⟩ := h.2.1.2.2.2.2.2.2.1
  have F0 : Fr B σ (setF σ (B + 11) 3 (.int (iI (wn A)))) := Fr.setF (by omega) rfl
  have b0 : BW8 B wa σ A d 0 (setF σ (B + 11) 3 (.int (iI (wn A)))) := by
    refine ⟨⟨h.1.fr F0, h.2.1.but rfl (fun r _ _ _ q _ _ _ _ _ => setF_ne _ _ _ (by omega)), h.2.2⟩, F0, hN.same rfl (setF_ne _ _ _ (by omega)) (setF_ne _ _ _ (by omega)), setF_self _ _ _ _, ⟨e1, ?_, fun w hw => by omega⟩, e2, ?_, fun w hw => by omega⟩
    · rw [setF_ne _ _ _ (by omega)]; exact i1
    · rw [setF_ne _ _ _ (by omega)]; exact i2
  obtain ⟨s1, l1, b1⟩ := x_fills (n := n) b0 h6 hn
  obtain ⟨h1, h2, h3, h4, h5, h7⟩ := b1
  have t11 : s1.2.1 (B + 11) = some (0, 5) := h1.1.sh 11 (by omega)
  have hr : nr 15 := Or.inl ⟨0, by omega, rfl⟩
  obtain ⟨p, e0, hp, hN0, hb0⟩ := h1.2.1.at hr
  have c1 := net_copy (n := n) hN0 h3 (by omega) (by omega)
  have B2 := cpd_NB hB (by omega) hb0
  have S2 := h1.nn (p := wn A + 1) hr hN0 (by omega) B2.2.2
  generalize hs2 : nn B s1 15 (wn A + 1) (cpd d e0) = s2 at c1 S2
  have ne : ∀ a, a ≠ B + 15 → a ≠ B + 16 → s2.2.2 a = s1.2.2 a := fun a q1 q2 => by rw [← hs2]; exact nn_ne q1 q2
  have t112 : s2.2.1 (B + 11) = some (0, 5) := S2.1.sh 11 (by omega)
  have p2 : pV 0 s2 (B + 11) 4 (.int (iI ((0 : Nat) : Int))) = some (setF s2 (B + 11) 4 (.int (iI ((0 : Nat) : Int)))) := pV_ok t112 (by omega)
  have C0 : CW B wa σ A (fun _ => cpd d e0) 0 0 (setF s2 (B + 11) 4 (.int (iI ((0 : Nat) : Int)))) := by
    refine ⟨⟨S2.1.fr (Fr.setF (by omega) rfl), S2.2.1.but rfl (fun r _ _ _ q _ _ _ _ _ => setF_ne _ _ _ (by omega)), S2.2.2⟩, (h2.trans (by rw [← hs2]; exact nn_fr hr)).trans (Fr.setF (by omega) rfl), fun k hk => ?_, ⟨?_, setF_self _ _ _ _⟩, ?_, ?_⟩
    · have k0 : k = 0 := by omega
      subst k0
      have N2 : NetAt s2 (B + (15 + 2 * 0)) (B + (15 + 2 * 0 + 1)) (wn A + 1) (cpd d e0) := by rw [← hs2]; exact nn_net hN0
      exact N2.same rfl (setF_ne _ _ _ (by omega)) (setF_ne _ _ _ (by omega))
    · rw [setF_k _ _ _ (by omega), ne _ (by omega) (by omega)]; exact h4
    · rw [setF_ne _ _ _ (by omega), ne _ (by omega) (by omega)]; exact h5
    · rw [setF_ne _ _ _ (by omega), ne _ (by omega) (by omega)]; exact h7
  obtain ⟨s', k, r1, C', -, l', a', all'⟩ := x_link (n := n) h6 S hn 9 0 (fun _ => none) (fun _ => cpd d e0) 0 _ (0 : Int32) 0 rfl (by omega) (by omega) (fun _ _ => rfl) (fun a b q => by omega) C0
    (fun y hy => by
      constructor
      · intro q
        have z : un (0 : Int32) = 0 := rfl
        rw [z] at q
        unfold bt at q
        rw [Nat.zero_div] at q
        omega
      · rintro ⟨a, q, -⟩; omega) (B2.iff (fun i j v => (lkR_none i j v).symm)) (by omega)
  refine ⟨k, s', ?_, C'.1, C'.2.1, l', ?_, fun nx v => all' nx v (fun a q => by omega)⟩
  · have r1' : mX0_link n 9 (setF s2 (B + 11) 4 (.int (iI ((0 : Nat) : Int)))) (B + 11) (0 : Int32) (0 : Int32) (0 : Int32) = some s' := r1
    have p2' : pV 0 s2 (B + 11) 4 (.int (0 : Int32)) = some (setF s2 (B + 11) 4 (.int (iI ((0 : Nat) : Int)))) := p2
    have q15 : toQ (aV 15 s1 (B + 12) (0 : Int32)) = some (some (B + 15)) := h1.1.cnet (k := 0) (by omega)
    unfold mX0_mostLinks
    simp only [isO_ok s11, Option.bind_some, jmin_6 h6, pV_ok s11 (show 3 < 5 by omega), l1, mX0_mostLinks_70, gR_ok t11 (show 0 < 5 by omega) (h1.1.pt 16 rfl), q15, c1, p2', r1', gI_ok C'.o (show 4 < 5 by omega) C'.2.2.2.1.2]
  · rcases a' with z | z
    · subst z
      refine ⟨fun _ => none, ⟨fun a b _ q => (by cases q), mat d, (CM.iff (fun i j v => ?_) _).mpr hB.1.1⟩, ?_⟩
      · rw [lkR_stop (k := 0) (fun _ _ => rfl) (by omega), lkR_none]
      · exact cntO_stop _ 0 (fun _ _ => rfl) _ (by omega)
    · exact z
def FWkr (A : AS) (x : Int32) (X : Nat → Nat → Int) (r : Int) : Prop := ∃ k : Nat, Most A (un x) k ∧ r = (wn A : Int) - k
theorem x_walkers (h : St B wa σ A) (x : Int32) (hn : 100000 ≤ n) : ∃ r σ', mX9_walkers n σ B x = some (iI r, σ') ∧ St B wa σ' A ∧ Fr B σ σ' ∧ Two (wn A ≤ 6) (-1) (Qry A x (-1) (FWkr A x)) r := by
  obtain ⟨hC, hS, hA⟩ := id h
  have h8 := hA.2.2.1.1
  unfold mX9_walkers
  simp only [hC.o, Option.bind_some, hC.qwn]
  by_cases c : wn A ≤ 6
  · rw [if_neg (by rw [iL, iI_lt (by omega) (by omega)]; omega)]
    obtain ⟨r, σ', q1, q2, q3, q4⟩ := qry_step (n := n) h x hn (no := -1) (F := FWkr A x) (cont := fun q => if q.1 = 0 then some ((-1 : Int32), q.2) else (toI (gV 9 q.2 B 6)).bind fun v5 => (toR (gV 9 q.2 B 13)).bind fun b6 => (toR (gV 9 q.2 B 11)).bind fun b7 => (toR (gV 9 q.2 B 5)).bind fun b8 => (toI (gV 9 q.2 B 6)).bind fun v9 => (mX0_mostLinks n q.2 b6 b7 b8 v9).bind fun p => some ((v5 - p.1), p.2)) (fun s => rfl) (fun d p e hN hB hd => by
      have hNd := dn_net hC (d := d) hN
      have hC' := (h.dn hd).1
      obtain ⟨k, s', k1, k2, k3, k4, k5⟩ := x_mostLinks (n := n) (h.dn hd) c hNd hB hn
      simp only [if_neg (show ¬ (1 : Int32) = 0 by decide), hC'.qwn, hC'.r13, hC'.r11, hC'.r5, Option.bind_some, k1, iI_sub]
      exact ⟨_, _, rfl, k2, (dn_fr d).trans k3, k, k5, rfl⟩)
    exact ⟨r, σ', q1, q2, q3, Or.inr ⟨c, q4⟩⟩
  · rw [if_pos (by rw [iL, iI_lt (by omega) (by omega)]; omega)]
    exact ⟨-1, σ, rfl, h, Fr.refl B σ, Or.inl ⟨c, rfl⟩⟩
end X68
