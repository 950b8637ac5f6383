/-! ===== start, settle, snow ===== -/
def tld (w : Wk) (z : Nat) : Wk := (w.1, w.2.1, w.2.2.1, w.2.2.2.1, z)
/-- the walks below t told as z says -/
def setTo (A : AS) (f : Nat → Wk) : AS := setWn A (wn A) f
theorem WalkAt.told {σ : Sg} {q : Nat} {w : Wk} {z : Nat} (h : WalkAt σ q w) : WalkAt (setF σ q 8 (.int (iI z))) q (tld w z) := by
  obtain ⟨⟨s0, s1, s2, s3⟩, ⟨f0, f1, f2, f3, f4, f5, f6, f7, f8⟩, a, b, c⟩ := h
  have far : ∀ j, 0 < j → (setF σ q 8 (.int (iI z))).2.2 (q + j) = σ.2.2 (q + j) := fun j hj => setF_ne _ _ _ (by omega)
  have k : ∀ j, j ≠ 8 → (setF σ q 8 (.int (iI z))).2.2 q j = σ.2.2 q j := fun j hj => setF_k _ _ _ hj
  refine ⟨⟨s0, s1, s2, s3⟩, ⟨(k 0 (by omega)).trans f0, (k 1 (by omega)).trans f1, (k 2 (by omega)).trans f2, (k 3 (by omega)).trans f3, (k 4 (by omega)).trans f4, (k 5 (by omega)).trans f5, (k 6 (by omega)).trans f6, (k 7 (by omega)).trans f7, setF_self _ _ _ _⟩, ?_, ?_, ?_⟩
  · rw [far 1 (by omega)]; exact a
  · rw [far 2 (by omega)]; exact b
  · rw [far 3 (by omega)]; exact c
section X43
variable {B n : Nat} {wa : Nat → Nat} {σ : Sg} {A : AS}
theorem x_setTold (h : St B wa σ A) {v z : Nat} (hv : v < wn A) (hz : z ≤ day A) : St B wa (setF σ (wa v) 8 (.int (iI z))) (setTo A (fun k => if k = v then tld (wk A v) z else wk A k)) ∧ Kp B σ (setF σ (wa v) 8 (.int (iI z))) ∧ (∀ a, a < B + 90 → (setF σ (wa v) 8 (.int (iI z))).2.2 a = σ.2.2 a) ∧ ∀ s, s = pV 8 σ (wa v) 8 (.int (iI z)) → s = some (setF σ (wa v) 8 (.int (iI z))) := by
  obtain ⟨hC, hS, hA⟩ := id h
  obtain ⟨g0, g1, g2, g3, g4⟩ := hC.split
  obtain ⟨w1, w2, w3, w4⟩ := g2
  have hb := (w2 v hv).2.2.1
  have hend := (w2 v hv).2.2.2
  have near : ∀ a, a < B + 90 → (setF σ (wa v) 8 (.int (iI z))).2.2 a = σ.2.2 a := fun a ha => setF_ne _ _ _ (by omega)
  refine ⟨⟨RC.join (A := setTo A (fun k => if k = v then tld (wk A v) z else wk A k)) (g0.same g0.2.2.2.2.2.2 (fun _ _ => rfl) (fun r k hr _ => by rw [near _ (by omega)])) (g1.same (by rw [near _ (by omega)]) (near _ (by omega))) ⟨?_, fun i hi => ?_, fun i q1 q2 => ?_, w4⟩ (g3.same (fun _ _ => rfl) hA.2.2.2.1.1 (by rw [near _ (by omega)]) (fun r _ hr => near _ (by omega))) (g4.same (by rw [near _ (by omega)]) (near _ (by omega))), hS.same rfl (fun r hr _ _ _ _ _ _ => near _ (by omega)), ?_⟩, ⟨Nat.le_refl _, fun _ _ => rfl, fun a h1 h2 => near a h2⟩, near, fun s hs => by rw [hs]; exact pV_ok ((w2 v hv).2.1.1.1) (by omega)⟩
  · rw [near _ (by omega)]; exact w1
  · have hi' : i < wn A := hi
    obtain ⟨b1, b2, b3, b4⟩ := w2 i hi'
    refine ⟨by rw [near _ (by omega)]; exact b1, ?_, b3, b4⟩
    show WalkAt _ _ (if i = v then tld (wk A v) z else wk A i)
    by_cases e : i = v
    · rw [if_pos e, e]
      exact (w2 v hv).2.1.told
    · rw [if_neg e]
      refine b2.same rfl (fun j hj => setF_ne _ _ _ ?_)
      rcases Nat.lt_or_ge i v with q | q
      · have := w4 i v q hv; omega
      · have := w4 v i (by omega) hi'; omega
  · rw [near _ (by omega)]; exact w3 i q1 q2
  · obtain ⟨a1, a2, ⟨a3, a4⟩, a5, a6⟩ := hA
    refine ⟨a1, a2, ⟨a3, fun i hi => ?_⟩, a5, a6⟩
    show WWf A (if i = v then tld (wk A v) z else wk A i)
    by_cases e : i = v
    · rw [if_pos e]
      obtain ⟨q1, q2, q3, q4, q5, q6⟩ := a4 v hv
      exact ⟨q1, q2, q3, q4, hz, q6⟩
    · rw [if_neg e]; exact a4 i hi
/-- start's answer and what it leaves -/
def Start (A : AS) (w z : Int) (A' : AS) (r : Int) : Prop := ((isW A w ∧ 0 ≤ z ∧ z ≤ day A) ∧ A' = setTo A (fun k => if k = w.toNat then tld (wk A w.toNat) z.toNat else wk A k) ∧ r = 1) ∨ (¬ (isW A w ∧ 0 ≤ z ∧ z ≤ day A) ∧ A' = A ∧ r = 0)
theorem x_start (h : St B wa σ A) {w z : Int} (hw : RI w) (hz : RI z) : ∃ r A' σ', mX9_start n σ B (iI w) (iI z) = some (iI r, σ') ∧ St B wa σ' A' ∧ Kp B σ σ' ∧ Start A w z A' r := by
  obtain ⟨hC, hS, hA⟩ := id h
  have hday := hA.1.2.2.2.2
  unfold mX9_start
  simp only [hC.o, Option.bind_some, x_walkOf hC hA hw]
  by_cases c0 : 0 ≤ w ∧ w < wn A
  · simp only [if_pos c0, hC.qday, Option.bind_some]
    by_cases c1 : z < 0
    · rw [if_pos ((c_lt0 hz).mpr c1)]
      exact ⟨0, A, σ, rfl, h, Kp.refl B σ, Or.inr ⟨fun q => by have := q.2.1; omega, rfl, rfl⟩⟩
    · rw [if_neg (fun q => c1 ((c_lt0 hz).mp q))]
      by_cases c2 : z ≤ day A
      · rw [if_pos ((c_le hz (RI.sm (by omega) (by omega))).mpr c2)]
        obtain ⟨e1, e2, e3, e4⟩ := x_setTold h (v := w.toNat) (z := z.toNat) (by omega) (by omega)
        have e5 := e4 _ rfl
        rw [show ((z.toNat : Nat) : Int) = z by omega] at e5 e1 e2
        rw [e5]
        exact ⟨1, _, _, rfl, e1, e2, Or.inl ⟨⟨c0, by omega, c2⟩, rfl, rfl⟩⟩
      · rw [if_neg (fun q => c2 ((c_le hz (RI.sm (by omega) (by omega))).mp q))]
        exact ⟨0, A, σ, rfl, h, Kp.refl B σ, Or.inr ⟨fun q => by have := q.2.2; omega, rfl, rfl⟩⟩
  · simp only [if_neg c0]
    exact ⟨0, A, σ, rfl, h, Kp.refl B σ, Or.inr ⟨fun q => c0 q.1, rfl, rfl⟩⟩
/-- the walks below t begun at their first -/
def toX (A : AS) (X : Nat → Nat → Int) (t : Nat) : AS := setTo A (fun k => if k < t then tld (wk A k) (X 0 (k + 1)).toNat else wk A k)
theorem toX_0 (X : Nat → Nat → Int) : toX A X 0 = A := by
  unfold toX setTo setWn
  have : (fun k => if k < 0 then tld (wk A k) (X 0 (k + 1)).toNat else wk A k) = wk A := by
    funext k; rw [if_neg (by omega)]
  rw [this]; rfl
theorem toX_succ (X : Nat → Nat → Int) (t : Nat) : setTo (toX A X t) (fun k => if k = t then tld (wk (toX A X t) t) (X 0 (t + 1)).toNat else wk (toX A X t) k) = toX A X (t + 1) := by
  have : (fun k => if k = t then tld (wk (toX A X t) t) (X 0 (t + 1)).toNat else wk (toX A X t) k) = fun k => if k < t + 1 then tld (wk A k) (X 0 (k + 1)).toNat else wk A k := by
    funext k
    have e1 : ∀ j, wk (toX A X t) j = if j < t then tld (wk A j) (X 0 (j + 1)).toNat else wk A j := fun j => rfl
    rw [e1, e1]
    by_cases c : k = t
    · subst c
      rw [if_pos rfl, if_neg (show ¬ k < k by omega), if_pos (show k < k + 1 by omega)]
    · rw [if_neg c]
      by_cases d : k < t
      · rw [if_pos d, if_pos (by omega)]
      · rw [if_neg d, if_neg (by omega)]
  rw [this]; rfl
def Settle (A : AS) (x : Int32) (A' : AS) (r : Int) : Prop := (un x < 2 ^ fn A ∧ ∃ X, LSx A (un x) X ∧ A' = toX A X (wn A) ∧ r = 1) ∨ ((¬ un x < 2 ^ fn A ∨ ¬ can A (un x) (fn A)) ∧ A' = A ∧ r = 0)
theorem x_settle (h : St B wa σ A) (x : Int32) (hn : 100000 ≤ n) : ∃ r A' σ', mX9_settle n σ B x = some (iI r, σ') ∧ St B wa σ' A' ∧ Kp B σ σ' ∧ Settle A x A' r := by
  obtain ⟨hC, hS, hA⟩ := id h
  have h8 := hA.2.2.1.1
  have hday : (0 : Int) ≤ day A ∧ (day A : Int) ≤ 2000 := by have := hA.1.2.2.2.2; omega
  obtain ⟨⟨p, e, hp, hN, hB⟩, -⟩ := hS
  unfold mX9_settle
  simp only [hC.o, Option.bind_some]
  rcases x_canBe (n := n) h x hn with ⟨k1, k2⟩ | ⟨k1, d, hd, ⟨k2, k3⟩ | ⟨k2, k3⟩⟩
  · rw [k2]
    exact ⟨0, A, σ, rfl, h, Kp.refl B σ, Or.inr ⟨Or.inl k1, rfl, rfl⟩⟩
  · rw [k2]
    have hN0 := dn_net hC (d := d) hN
    have hin : ∀ k, k < wn A → 0 ≤ mat d 0 (k + 1) ∧ mat d 0 (k + 1) ≤ day A := fun k hk => by
      have a := k3.1.1.2.1 0 (k + 1) 0 (by omega) (by omega) (k3.2.1 0 (k + 1) 0 (Or.inl ⟨rfl, rfl⟩))
      have b := k3.1.1.within k3.2.1 hday.1 (i := 0) (j := k + 1) (by omega) (by omega)
      omega
    have key := loop_inv (body := mX9_settle_L12 n B) (fun c => ∃ t : Nat, t ≤ wn A ∧ c.2 = iI t ∧ St B wa c.1 (toX A (mat d) t) ∧ Kp B σ c.1 ∧ NetAt c.1 (B + 6) (B + 7) (wn A + 1) d) (fun c => wn A - c.2.toNatClampNeg)
      (fun s => St B wa s (toX A (mat d) (wn A)) ∧ Kp B σ s) ?_ n (dn B σ A d, (0 : Int32)) ⟨0, by omega, rfl, by rw [toX_0]; exact h.dn hd, (dn_fr d).kp, hN0⟩ (by omega)
    · obtain ⟨s, e1, e2, e3⟩ := key
      simp only [Option.bind_some, if_neg i10, e1]
      exact ⟨1, _, s, rfl, e2, e3, Or.inl ⟨k1, mat d, k3.1, rfl, rfl⟩⟩
    · rintro ⟨s, z⟩ ⟨t, ht, ez, hs, hk, hNs⟩
      have ez : z = iI t := ez
      subst ez
      have hz : (iI (t : Int)).toNatClampNeg = t := by rw [iI_clamp (by omega) (by omega)]; omega
      have hz1 : (iI ((t + 1 : Nat) : Int)).toNatClampNeg = t + 1 := by rw [iI_clamp (by omega) (by omega)]; omega
      have rt : RI (t : Int) := RI.sm (by omega) (by omega)
      have hwn : toI (gV 9 s B 6) = some (iI (wn A)) := hs.1.qwn
      by_cases c4 : t = wn A
      · refine Or.inr ⟨s, ?_, by rw [← c4]; exact hs, hk⟩
        simp only [mX9_settle_L12, hwn, Option.bind_some]
        rw [if_pos ((c_le (RI.sm (by omega) (by omega)) rt).mpr (by omega))]
      · have hi := hin t (by omega)
        have hwk : toQ (aV 13 s (B + 3) (iI t)) = some (some (wa t)) := hs.1.walk hs.2.2 (show t < wn (toX A (mat d) t) by show t < wn A; omega)
        obtain ⟨e1, e2, e3, e4⟩ := x_setTold hs (v := t) (z := (mat d 0 (t + 1)).toNat) (by show t < wn A; omega) (by show _ ≤ day A; omega)
        rw [toX_succ] at e1
        have e5 := e4 _ rfl
        have e6 : (((mat d 0 (t + 1)).toNat : Nat) : Int) = mat d 0 (t + 1) := by omega
        have e7 : mat d 0 (t + 1) = d (t + 1) := by show d (0 * 9 + (t + 1)) = _; rw [show 0 * 9 + (t + 1) = t + 1 by omega]
        rw [e6, e7] at e5 e1 e2 e3
        refine Or.inl ⟨(setF s (wa t) 8 (.int (iI (d (t + 1)))), iI ((t + 1 : Nat) : Int)), ?_, ⟨t + 1, by omega, rfl, e1, hk.trans e2, ?_⟩, ?_⟩
        · simp only [mX9_settle_L12, hwn, hs.1.r5, hwk, hs.1.r11, Option.bind_some, net_firstOf hNs (show wn A + 1 ≤ 9 by omega) (show t + 1 < wn A + 1 by omega), e5, mX9_settle_43, pt1]
          rw [if_neg (fun q => by have := (c_le (RI.sm (by omega) (by omega)) rt).mp q; omega)]
        · obtain ⟨n1, n2, n3, n4, n5, n6⟩ := hNs
          exact ⟨n1, n2, n3, by rw [e3 _ (by omega)]; exact n4, by rw [e3 _ (by omega)]; exact n5, by rw [e3 _ (by omega)]; exact n6⟩
        · show wn A - (iI ((t + 1 : Nat) : Int)).toNatClampNeg < wn A - (iI (t : Int)).toNatClampNeg
          rw [hz, hz1]; omega
  · rw [k2]
    exact ⟨0, A, _, rfl, h.dn hd, (dn_fr d).kp, Or.inr ⟨Or.inr k3, rfl, rfl⟩⟩
/-- snow's answer and what it leaves -/
def Snow (A : AS) (z : Int) (A' : AS) (r : Int) : Prop := ((0 ≤ z ∧ z ≤ 5000) ∧ sn A < 8 ∧ A' = setSn A (sn A + 1) (fun k => if k = sn A then z.toNat else sw A k) ∧ r = (sn A : Int) + 1) ∨ (¬ ((0 ≤ z ∧ z ≤ 5000) ∧ sn A < 8) ∧ A' = A ∧ r = -1)
theorem x_snow (h : St B wa σ A) {z : Int} (hz : RI z) : ∃ r A' σ', mX9_snow n σ B (iI z) = some (iI r, σ') ∧ St B wa σ' A' ∧ Kp B σ σ' ∧ Snow A z A' r := by
  obtain ⟨hC, hS, hA⟩ := id h
  have h8 := hA.2.2.2.2.1
  unfold mX9_snow
  simp only [hC.o, Option.bind_some, x_isTick hz]
  by_cases c0 : 0 ≤ z ∧ z ≤ 5000
  · rw [if_pos c0, if_neg i10]
    simp only [hC.qsn, hC.r9, Option.bind_some]
    by_cases c1 : sn A < 8
    · rw [if_pos ((c_ltL 8 (by omega) (RI.sm (by omega) (by omega))).mpr (by omega))]
      obtain ⟨e, m1, m2⟩ := hC.2.2.2.2.2.2.2.1
      have s5 : σ.2.1 (B + 5) = some (11, 8) := hC.sh 5 (by omega)
      have hsv := sV_ok (v := z) s5 m1 (show (0 : Int) ≤ (sn A : Int) by omega) (show (sn A : Int) < (8 : Nat) by omega) (by omega)
      rw [show ((sn A : Int)).toNat = sn A by omega] at hsv
      simp only [hsv, Option.bind_some]
      generalize hτ : setA σ (B + 5) (updZ e (sn A) z) = τ
      have x1 : τ.2.1 B = some (9, 18) := by rw [← hτ]; exact hC.x
      have m10 : τ.2.2 B 10 = .int (iI (sn A)) := by rw [← hτ, setA_ne _ _ (by omega)]; exact hC.2.2.2.2.2.1.2.2.2.2.2.1
      have hx : (setF τ B 10 (.int (iI ((sn A : Int) + 1)))).2.1 B = some (9, 18) := x1
      simp only [gI_ok x1 (show 10 < 18 by omega) m10, Option.bind_some, pV_ok x1 (show 10 < 18 by omega), iI_1, iI_add, gI_ok hx (show 10 < 18 by omega) (setF_self τ B 10 _)]
      have far : ∀ a, a ≠ B → a ≠ B + 5 → (setF τ B 10 (.int (iI ((sn A : Int) + 1)))).2.2 a = σ.2.2 a := fun a h1 h2 => by rw [setF_ne _ _ _ h1, ← hτ, setA_ne _ _ h2]
      have b0 : ∀ k, k ≠ 10 → (setF τ B 10 (.int (iI ((sn A : Int) + 1)))).2.2 B k = σ.2.2 B k := fun k hk => by rw [setF_k _ _ _ hk, ← hτ, setA_ne _ _ (by omega)]
      have b5 : (setF τ B 10 (.int (iI ((sn A : Int) + 1)))).2.2 (B + 5) = iz (updZ e (sn A) z) := by rw [setF_ne _ _ _ (by omega), ← hτ, setA_self]
      have sz : (setF τ B 10 (.int (iI ((sn A : Int) + 1)))).1 = σ.1 := by rw [← hτ]; rfl
      have ss : (setF τ B 10 (.int (iI ((sn A : Int) + 1)))).2.1 = σ.2.1 := by rw [← hτ]; rfl
      obtain ⟨g0, g1, g2, g3, g4⟩ := hC.split
      refine ⟨(sn A : Int) + 1, setSn A (sn A + 1) (fun k => if k = sn A then z.toNat else sw A k), setF τ B 10 (.int (iI ((sn A : Int) + 1))), rfl, ⟨RC.join (A := setSn A (sn A + 1) (fun k => if k = sn A then z.toNat else sw A k)) (g0.same (by rw [sz]; exact g0.2.2.2.2.2.2) (fun _ _ => by rw [ss]) (fun r k hr hk => ?_)) (g1.same (by rw [far _ (by omega) (by omega)]) (far _ (by omega) (by omega))) (g2.same (by rw [sz]; exact Nat.le_refl _) (fun _ _ _ => by rw [ss]) (b0 6 (by omega)) (far _ (by omega) (by omega)) (fun a q1 q2 => far a (by omega) (by omega))) (g3.same (fun _ _ => by rw [ss]) hA.2.2.2.1.1 (b0 8 (by omega)) (fun r h1 h2 => far _ (by omega) (by omega))) ⟨setF_self τ B 10 _, updZ e (sn A) z, b5, fun k hk => ?_⟩, hS.same ss (fun r hr h0 h1 h2 h3 h4 h5 => far _ (by omega) (by omega)), ?_⟩, ⟨by rw [sz]; exact Nat.le_refl _, fun _ _ => by rw [ss], fun a h1 h2 => far a (by omega) (by omega)⟩, Or.inl ⟨c0, c1, rfl, rfl⟩⟩
      · by_cases e0 : r = 0
        · subst e0
          exact b0 k (fun e => by subst e; cases hk)
        · by_cases e5 : r = 5
          · subst e5
            exfalso
            simp [sq] at hk
          · rw [far _ (by omega) (by omega)]
      · show updZ e (sn A) z k = ((if k = sn A then z.toNat else sw A k : Nat) : Int)
        have hk' : k < sn A + 1 := hk
        unfold updZ
        by_cases c : k = sn A
        · rw [if_pos c, if_pos c]; omega
        · rw [if_neg c, if_neg c]; exact m2 k (by omega)
      · obtain ⟨a1, a2, a3, a5, ⟨a6, a7⟩⟩ := hA
        refine ⟨a1, a2, a3, a5, ⟨c1, fun k hk => ?_⟩⟩
        show (if k = sn A then z.toNat else sw A k) ≤ 5000
        have hk' : k < sn A + 1 := hk
        by_cases c : k = sn A
        · rw [if_pos c]; omega
        · rw [if_neg c]; exact a7 k (by omega)
    · rw [if_neg (fun q => by have := (c_ltL 8 (by omega) (RI.sm (by omega) (by omega))).mp q; omega)]
      exact ⟨-1, A, σ, rfl, h, Kp.refl B σ, Or.inr ⟨fun q => c1 q.2, rfl, rfl⟩⟩
  · rw [if_neg c0, if_pos i00]
    exact ⟨-1, A, σ, rfl, h, Kp.refl B σ, Or.inr ⟨fun q => c0 q.1, rfl, rfl⟩⟩
end X43
