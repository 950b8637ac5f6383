/-! ===== the tape: feed, end ===== -/
section X44
variable {B n : Nat} {wa : Nat → Nat} {σ : Sg} {A : AS}
theorem setTn_id (A : AS) : setTn A (tn A) (tb A) = A := rfl
theorem x_tape (h : St B wa σ A) {τ : Sg} {t : Nat} {b : Nat → Nat} (hz : τ.1 = σ.1) (hs : τ.2.1 = σ.2.1) (hm : ∀ a, a ≠ B + 1 → a ≠ B + 2 → τ.2.2 a = σ.2.2 a) (h1 : ∀ k, k ≠ 1 → τ.2.2 (B + 1) k = σ.2.2 (B + 1) k) (hT : RT B τ t b) (ht : t ≤ 160) (hb : ∀ k, k < t → 1 ≤ b k ∧ b k ≤ 255) : St B wa τ (setTn A t b) ∧ Kp B σ τ := by
  obtain ⟨hC, hS, hA⟩ := id h
  obtain ⟨g0, g1, g2, g3, g4⟩ := hC.split
  refine ⟨⟨RC.join (A := setTn A t b) (g0.same (by rw [hz]; exact g0.2.2.2.2.2.2) (fun _ _ => by rw [hs]) (fun r k hr hk => ?_)) hT (g2.same (by rw [hz]; exact Nat.le_refl _) (fun _ _ _ => by rw [hs]) (by rw [hm _ (by omega) (by omega)]) (hm _ (by omega) (by omega)) (fun a q1 q2 => hm a (by omega) (by omega))) (g3.same (fun _ _ => by rw [hs]) hA.2.2.2.1.1 (by rw [hm _ (by omega) (by omega)]) (fun r q1 q2 => hm _ (by omega) (by omega))) (g4.same (by rw [hm _ (by omega) (by omega)]) (hm _ (by omega) (by omega))), hS.same hs (fun r hr h0 h1 h2 h3 h4 h5 => hm _ (by omega) (by omega)), ?_⟩, ⟨by rw [hz]; exact Nat.le_refl _, fun _ _ => by rw [hs], fun a q1 q2 => hm a (by omega) (by omega)⟩⟩
  · by_cases e1 : r = 1
    · subst e1
      exact h1 k (fun e => by subst e; cases hk)
    · by_cases e2 : r = 2
      · subst e2
        exfalso
        simp [sq] at hk
      · rw [hm _ (by omega) (by omega)]
  · obtain ⟨a1, a2, a3, a4, a5⟩ := hA
    exact ⟨a1, ⟨ht, hb⟩, a3, a4, a5⟩
theorem RC.tsize (h : RC B wa σ A) : toI (gV 7 σ (B + 1) 1) = some (iI (tn A)) := gI_ok h.t (by omega) h.2.2.2.2.2.1.2.2.2.2.2.2.1
theorem RC.tbytes (h : RC B wa σ A) : toR (gV 7 σ (B + 1) 0) = some (B + 2) := gR_ok h.t (by omega) (h.pt 12 rfl)
theorem x_cut (h : St B wa σ A) {z : Int} (hz : RI z) : ∃ σ', mX7_cut n σ (B + 1) (iI z) = some (if 0 ≤ z ∧ z ≤ tn A then 1 else 0, σ') ∧ St B wa σ' (if 0 ≤ z ∧ z ≤ tn A then setTn A z.toNat (tb A) else A) ∧ Kp B σ σ' := by
  obtain ⟨hC, hS, hA⟩ := id h
  have ht := hA.2.1.1
  unfold mX7_cut
  simp only [isO_ok hC.t, hC.tsize, Option.bind_some]
  by_cases c0 : z < 0
  · rw [if_pos ((c_lt0 hz).mpr c0), if_neg (by omega), if_neg (by omega)]
    exact ⟨σ, rfl, h, Kp.refl B σ⟩
  · rw [if_neg (fun q => c0 ((c_lt0 hz).mp q))]
    by_cases c1 : z ≤ tn A
    · rw [if_pos ((c_le hz (RI.sm (by omega) (by omega))).mpr c1), if_pos (by omega), if_pos (by omega), pV_ok hC.t (show 1 < 7 by omega)]
      obtain ⟨e, m1, m2⟩ := hC.2.2.2.2.2.2.1
      obtain ⟨q1, q2⟩ := x_tape h (τ := setF σ (B + 1) 1 (.int (iI z))) (t := z.toNat) (b := tb A) rfl rfl (fun a h1 h2 => setF_ne _ _ _ h1) (fun k hk => setF_k _ _ _ hk) ⟨by rw [setF_self, show ((z.toNat : Nat) : Int) = z by omega], e, by rw [setF_ne _ _ _ (by omega)]; exact m1, fun k hk => m2 k (by omega)⟩ (by omega) (fun k hk => hA.2.1.2 k (by omega))
      exact ⟨_, rfl, q1, q2⟩
    · rw [if_neg (fun q => c1 ((c_le hz (RI.sm (by omega) (by omega))).mp q)), if_neg (by omega), if_neg (by omega)]
      exact ⟨σ, rfl, h, Kp.refl B σ⟩
def EndQ (A : AS) (z : Int) (A' : AS) (r : Int) : Prop := ((0 ≤ z ∧ z ≤ tn A) ∧ A' = setTn A z.toNat (tb A) ∧ r = 1) ∨ (¬ (0 ≤ z ∧ z ≤ tn A) ∧ A' = A ∧ r = 0)
theorem x_end (h : St B wa σ A) {z : Int} (hz : RI z) : ∃ r A' σ', mX9_end n σ B (iI z) = some (iI r, σ') ∧ St B wa σ' A' ∧ Kp B σ σ' ∧ EndQ A z A' r := by
  obtain ⟨σ', h1, h2, h3⟩ := x_cut (n := n) h hz
  unfold mX9_end
  simp only [h.1.o, h.1.r3, Option.bind_some, h1]
  by_cases c : 0 ≤ z ∧ z ≤ tn A
  · rw [if_pos c] at h2
    rw [if_pos c, if_pos (Or.inr rfl)]
    exact ⟨1, _, σ', rfl, h2, h3, Or.inl ⟨c, rfl, rfl⟩⟩
  · rw [if_neg c] at h2
    rw [if_neg c, if_pos (Or.inl rfl)]
    exact ⟨0, _, σ', rfl, h2, h3, Or.inr ⟨c, rfl, rfl⟩⟩
/-- byte i of a word -/
def byW (x : Int32) (i : Nat) : Nat := un x / 2 ^ (24 - 8 * i) % 256
def psh (v : Nat) (p : Nat × (Nat → Nat)) : Nat × (Nat → Nat) := if v = 0 then p else (p.1 + 1, fun j => if j = p.1 then v else p.2 j)
/-- the tape with the first i bytes of a word -/
def apW (x : Int32) (p : Nat × (Nat → Nat)) : Nat → Nat × (Nat → Nat)
  | 0 => p
  | i + 1 => psh (byW x i) (apW x p i)
theorem psh_ge (v : Nat) (p : Nat × (Nat → Nat)) : p.1 ≤ (psh v p).1 := by
  unfold psh
  split
  · exact Nat.le_refl _
  · exact Nat.le_succ _
theorem apW_ge (x : Int32) (p : Nat × (Nat → Nat)) {i j : Nat} (h : i ≤ j) : (apW x p i).1 ≤ (apW x p j).1 := by
  induction j with
  | zero => rw [show i = 0 by omega]; exact Nat.le_refl _
  | succ j ih =>
    by_cases e : i = j + 1
    · rw [e]; exact Nat.le_refl _
    · exact Nat.le_trans (ih (by omega)) (psh_ge _ _)
theorem psh_low (v : Nat) (p : Nat × (Nat → Nat)) {j : Nat} (h : j < p.1) : (psh v p).2 j = p.2 j := by
  unfold psh
  split
  · rfl
  · show (if j = p.1 then v else p.2 j) = p.2 j
    rw [if_neg (by omega)]
theorem apW_low (x : Int32) (p : Nat × (Nat → Nat)) {j : Nat} (h : j < p.1) : ∀ i, (apW x p i).2 j = p.2 j
  | 0 => rfl
  | i + 1 => by
    show (psh (byW x i) (apW x p i)).2 j = _
    rw [psh_low _ _ (Nat.lt_of_lt_of_le h (apW_ge x p (Nat.zero_le i))), apW_low x p h i]
theorem byte_at (x : Int32) : ∀ i : Nat, i < 4 → ((x.toUInt32 >>> ((iI ((24 - 8 * i : Nat) : Int)).toUInt32 &&& Int32.toUInt32 31)).toInt32 &&& (255 : Int32)) = iI (byW x i) := by
  intro i hi
  rw [pk_and _ 8 rfl]
  have := ushr_un x (k := 24 - 8 * i) (by omega)
  unfold un at this
  rw [this]
  unfold byW un
  exact iI_nat _
theorem byW_lt (x : Int32) (i : Nat) : byW x i < 256 := Nat.mod_lt _ (by omega)
/-- one byte more -/
theorem x_push (h : St B wa σ A) (ht : tn A < 160) {v : Nat} (hv : 1 ≤ v ∧ v ≤ 255) : ∃ τ, (sV 11 σ (B + 2) (iI (tn A)) (.int (iI v))).bind (fun s7 => (toI (gV 7 s7 (B + 1) 1)).bind fun v8 => pV 7 s7 (B + 1) 1 (.int (v8 + (1 : Int32)))) = some τ ∧ St B wa τ (setTn A (tn A + 1) (fun j => if j = tn A then v else tb A j)) ∧ Kp B σ τ := by
  obtain ⟨hC, hS, hA⟩ := id h
  obtain ⟨e, m1, m2⟩ := hC.2.2.2.2.2.2.1
  have s2 : σ.2.1 (B + 2) = some (11, 160) := hC.sh 2 (by omega)
  have hsv := sV_ok (v := v) s2 m1 (show (0 : Int) ≤ (tn A : Int) by omega) (show (tn A : Int) < (160 : Nat) by omega) (by omega)
  rw [show ((tn A : Int)).toNat = tn A by omega] at hsv
  rw [hsv]
  have x1 : (setA σ (B + 2) (updZ e (tn A) v)).2.1 (B + 1) = some (7, 7) := hC.t
  have m10 : (setA σ (B + 2) (updZ e (tn A) v)).2.2 (B + 1) 1 = .int (iI (tn A)) := by rw [setA_ne _ _ (by omega)]; exact hC.2.2.2.2.2.1.2.2.2.2.2.2.1
  simp only [Option.bind_some, gI_ok x1 (show 1 < 7 by omega) m10, pt1, pV_ok x1 (show 1 < 7 by omega)]
  refine ⟨_, rfl, ?_⟩
  refine x_tape h rfl rfl (fun a h1 h2 => by rw [setF_ne _ _ _ h1, setA_ne _ _ h2]) (fun k hk => by rw [setF_k _ _ _ hk, setA_ne _ _ (by omega)]) ⟨setF_self _ _ _ _, updZ e (tn A) v, by rw [setF_ne _ _ _ (by omega), setA_self], fun k hk => ?_⟩ (by omega) (fun k hk => ?_)
  · show updZ e (tn A) v k = ((if k = tn A then v else tb A k : Nat) : Int)
    unfold updZ
    by_cases c : k = tn A
    · rw [if_pos c, if_pos c]
    · rw [if_neg c, if_neg c]; exact m2 k (by omega)
  · show 1 ≤ (if k = tn A then v else tb A k) ∧ (if k = tn A then v else tb A k) ≤ 255
    by_cases c : k = tn A
    · rw [if_pos c]; exact hv
    · rw [if_neg c]; exact hA.2.1.2 k (by omega)
/-- a word appended -/
theorem x_append {p : Nat × (Nat → Nat)} (h : St B wa σ (setTn A p.1 p.2)) (x : Int32) (hn : 100000 ≤ n) : ∃ σ', ((mX7_append n σ (B + 1) x = some (1, σ') ∧ St B wa σ' (setTn A (apW x p 4).1 (apW x p 4).2)) ∨ (mX7_append n σ (B + 1) x = some (0, σ') ∧ ∃ i, i < 4 ∧ St B wa σ' (setTn A (apW x p i).1 (apW x p i).2) ∧ 160 < (apW x p 4).1)) ∧ Kp B σ σ' := by
  have h32 : ((24 : Int32) + 8).toNatClampNeg < n := by
    have : ((24 : Int32) + 8).toNatClampNeg = 32 := by decide
    omega
  have key := loop_inv (body := mX7_append_L3 n (B + 1) x) (fun c => ∃ i : Nat, i ≤ 4 ∧ c.2 = iI (24 - 8 * (i : Int)) ∧ St B wa c.1 (setTn A (apW x p i).1 (apW x p i).2) ∧ Kp B σ c.1) (fun c => (c.2 + 8).toNatClampNeg)
    (fun e => (∃ s, e = .inl s ∧ St B wa s (setTn A (apW x p 4).1 (apW x p 4).2) ∧ Kp B σ s) ∨ ∃ s i, e = .inr (0, s) ∧ i < 4 ∧ St B wa s (setTn A (apW x p i).1 (apW x p i).2) ∧ 160 < (apW x p 4).1 ∧ Kp B σ s) ?_ n (σ, (24 : Int32)) ⟨0, by omega, rfl, h, Kp.refl B σ⟩ h32
  · obtain ⟨e, h1, h2⟩ := key
    unfold mX7_append
    simp only [isO_ok h.1.t, Option.bind_some, h1]
    rcases h2 with ⟨s, rfl, h3, h4⟩ | ⟨s, i, rfl, h3, h4, h5, h6⟩
    · exact ⟨s, Or.inl ⟨rfl, h3⟩, h4⟩
    · exact ⟨s, Or.inr ⟨rfl, i, h3, h4, h5⟩, h6⟩
  · rintro ⟨s, z⟩ ⟨i, hi, ez, hs, hk⟩
    have ez : z = iI (24 - 8 * (i : Int)) := ez
    subst ez
    have down : (iI (24 - 8 * ((i + 1 : Nat) : Int)) + 8).toNatClampNeg < (iI (24 - 8 * (i : Int)) + 8).toNatClampNeg ∨ i = 4 := by
      by_cases e : i = 4
      · exact Or.inr e
      · left
        have e8 : (8 : Int32) = iI 8 := rfl
        rw [e8, iI_add, iI_add, iI_clamp (by omega) (by omega), iI_clamp (by omega) (by omega)]
        omega
    have rz : RI (24 - 8 * (i : Int)) := RI.sm (by omega) (by omega)
    by_cases c0 : i = 4
    · refine Or.inr ⟨.inl s, ?_, Or.inl ⟨s, rfl, by rw [← c0]; exact hs, hk⟩⟩
      simp only [mX7_append_L3]
      rw [if_pos ((c_lt0 rz).mpr (by omega))]
    · have hd := down.resolve_right c0
      have eN : (24 - 8 * (i : Int)) = ((24 - 8 * i : Nat) : Int) := by omega
      have bx := byte_at x i (by omega)
      have bl := byW_lt x i
      have nx : iI (24 - 8 * (i : Int)) + (-8 : Int32) = iI (24 - 8 * ((i + 1 : Nat) : Int)) := by
        have e8 : (-8 : Int32) = iI (-8) := rfl
        rw [e8, iI_add, show 24 - 8 * (i : Int) + -8 = 24 - 8 * ((i + 1 : Nat) : Int) by omega]
      have base : mX7_append_L3 n (B + 1) x (s, iI (24 - 8 * (i : Int))) = if iI (byW x i : Nat) = 0 then mX7_append_53 n s (B + 1) x (iI (24 - 8 * (i : Int))) else (toI (gV 7 s (B + 1) 1)).bind fun v2 => (toR (gV 7 s (B + 1) 0)).bind fun b3 => (lenA 11 s b3).bind fun v4 => if v2 < v4 then ((toR (gV 7 s (B + 1) 0)).bind fun b5 => (toI (gV 7 s (B + 1) 1)).bind fun v6 => (sV 11 s b5 v6 (.int (iI (byW x i : Nat)))).bind fun s7 => (toI (gV 7 s7 (B + 1) 1)).bind fun v8 => (pV 7 s7 (B + 1) 1 (.int (v8 + (1 : Int32)))).bind fun s9 => mX7_append_53 n s9 (B + 1) x (iI (24 - 8 * (i : Int)))) else some (.inr (.inr ((0 : Int32), s))) := by
        simp only [mX7_append_L3, nm]
        rw [if_neg (fun q => by have := (c_lt0 rz).mp q; omega)]
        rw [eN, bx]
      have sx : apW x p (i + 1) = psh (byW x i) (apW x p i) := rfl
      by_cases c1 : byW x i = 0
      · refine Or.inl ⟨(s, iI (24 - 8 * ((i + 1 : Nat) : Int))), ?_, ⟨i + 1, by omega, rfl, ?_, hk⟩, hd⟩
        · rw [base, if_pos (by rw [c1]; rfl)]
          simp only [mX7_append_53, nx]
        · show St B wa s (setTn A (apW x p (i + 1)).1 (apW x p (i + 1)).2)
          rw [sx]
          unfold psh
          rw [if_pos c1]; exact hs
      · have ht : (apW x p i).1 ≤ 160 := hs.2.2.2.1.1
        have hl : s.2.1 (B + 2) = some (11, 160) := hs.1.sh 2 (by omega)
        have hts : toI (gV 7 s (B + 1) 1) = some (iI ((apW x p i).1 : Nat)) := hs.1.tsize
        have psx : psh (byW x i) (apW x p i) = ((apW x p i).1 + 1, fun j => if j = (apW x p i).1 then byW x i else (apW x p i).2 j) := by
          unfold psh
          rw [if_neg c1]
        by_cases c2 : (apW x p i).1 < 160
        · obtain ⟨τ, t1, t2, t3⟩ := x_push hs (show tn (setTn A (apW x p i).1 (apW x p i).2) < 160 from c2) (v := byW x i) (by omega)
          have t1 : (sV 11 s (B + 2) (iI ((apW x p i).1 : Nat)) (.int (iI (byW x i : Nat)))).bind (fun s7 => (toI (gV 7 s7 (B + 1) 1)).bind fun v8 => pV 7 s7 (B + 1) 1 (.int (v8 + (1 : Int32)))) = some τ := t1
          refine Or.inl ⟨(τ, iI (24 - 8 * ((i + 1 : Nat) : Int))), ?_, ⟨i + 1, by omega, rfl, ?_, hk.trans t3⟩, hd⟩
          · rw [base, if_neg (fun q => c1 (by have := (c_eq0 (RI.sm (by omega) (by omega))).mp q; omega))]
            simp only [hts, hs.1.tbytes, lenA_ok hl, Option.bind_some]
            rw [if_pos ((c_lt (RI.sm (by omega) (by omega)) (RI.sm (by omega) (by omega))).mpr (by omega))]
            have e1 : ∀ (o : Option Sg) (f : Sg → Option Sg) (g : Sg → Option ((Sg × Int32) ⊕ ((Sg) ⊕ (Int32 × Sg)))), (o.bind fun s7 => (f s7).bind g) = (o.bind f).bind g := fun o f g => by cases o <;> rfl
            have e2 : ∀ (s7 : Sg) (o : Option Int32) (f : Int32 → Option Sg) (g : Sg → Option ((Sg × Int32) ⊕ ((Sg) ⊕ (Int32 × Sg)))), (o.bind fun v8 => (f v8).bind g) = (o.bind f).bind g := fun s7 o f g => by cases o <;> rfl
            simp only [e2 s, e1]
            rw [t1]
            simp only [Option.bind_some, mX7_append_53, nx]
          · show St B wa τ (setTn A (apW x p (i + 1)).1 (apW x p (i + 1)).2)
            rw [sx, psx]; exact t2
        · refine Or.inr ⟨.inr (0, s), ?_, Or.inr ⟨s, i, rfl, by omega, hs, ?_, hk⟩⟩
          · rw [base, if_neg (fun q => c1 (by have := (c_eq0 (RI.sm (by omega) (by omega))).mp q; omega))]
            simp only [hts, hs.1.tbytes, lenA_ok hl, Option.bind_some]
            rw [if_neg (fun q => by have := (c_lt (RI.sm (by omega) (by omega)) (RI.sm (by omega) (by omega))).mp q; omega)]
          · have := apW_ge x p (show i + 1 ≤ 4 by omega)
            rw [sx, psx] at this
            have : (apW x p i).1 + 1 ≤ (apW x p 4).1 := this
            omega
/-- the tape behind five words -/
def fd5 (a b c d e : Int32) (p : Nat × (Nat → Nat)) : Nat × (Nat → Nat) := apW e (apW d (apW c (apW b (apW a p 4) 4) 4) 4) 4
def Feed (A : AS) (a b c d e : Int32) (A' : AS) (r : Int) : Prop := ((fd5 a b c d e (tn A, tb A)).1 ≤ 160 ∧ A' = setTn A (fd5 a b c d e (tn A, tb A)).1 (fd5 a b c d e (tn A, tb A)).2 ∧ r = (fd5 a b c d e (tn A, tb A)).1) ∨ (160 < (fd5 a b c d e (tn A, tb A)).1 ∧ A' = A ∧ r = -1)
theorem feed_back {p : Nat × (Nat → Nat)} {τ : Sg} (h : St B wa τ (setTn A p.1 p.2)) (hA : Wf A) (hp : tn A ≤ p.1) (hl : ∀ j, j < tn A → p.2 j = tb A j) : ∃ σ', mX9_feed_70 n τ B (iI (tn A)) = some ((-1 : Int32), σ') ∧ St B wa σ' A ∧ Kp B τ σ' := by
  have ht := hA.2.1.1
  obtain ⟨σ', h1, h2, h3⟩ := x_cut (n := n) h (z := (tn A : Int)) (RI.sm (by omega) (by omega))
  have c : 0 ≤ (tn A : Int) ∧ (tn A : Int) ≤ (tn (setTn A p.1 p.2) : Int) := ⟨by omega, by show (tn A : Int) ≤ (p.1 : Int); omega⟩
  rw [if_pos c] at h1 h2
  refine ⟨σ', ?_, ?_, h3⟩
  · simp only [mX9_feed_70, mX9_feed_71, if_pos, h.1.r3, Option.bind_some, h1]
  · obtain ⟨q1, q2, q3⟩ := h2
    have e : (tn A : Int).toNat = tn A := by omega
    rw [e] at q1
    obtain ⟨g0, g1, g2, g3, g4⟩ := q1.split
    refine ⟨RC.join (A := A) g0 ⟨g1.1, ?_⟩ g2 g3 g4, q2, hA⟩
    obtain ⟨e, m1, m2⟩ := g1.2
    exact ⟨e, m1, fun k hk => (m2 k hk).trans (by show ((p.2 k : Nat) : Int) = _; rw [hl k hk])⟩
theorem x_feed (h : St B wa σ A) (a b c d e : Int32) (hn : 100000 ≤ n) : ∃ r A' σ', mX9_feed n σ B a b c d e = some (iI r, σ') ∧ St B wa σ' A' ∧ Kp B σ σ' ∧ Feed A a b c d e A' r := by
  obtain ⟨hC, hS, hA⟩ := id h
  have ts := hC.tsize
  unfold mX9_feed
  simp only [hC.o, hC.r3, ts, Option.bind_some]
  have low1 : ∀ i j, j < tn A → (apW a (tn A, tb A) i).2 j = tb A j := fun i j hj => apW_low a (tn A, tb A) hj i
  have ge1 : ∀ i, tn A ≤ (apW a (tn A, tb A) i).1 := fun i => apW_ge a (tn A, tb A) (Nat.zero_le i)
  have low2 : ∀ i j, j < tn A → (apW b (apW a (tn A, tb A) 4) i).2 j = tb A j := fun i j hj => (apW_low b _ (Nat.lt_of_lt_of_le hj (ge1 4)) i).trans (low1 4 j hj)
  have ge2 : ∀ i, tn A ≤ (apW b (apW a (tn A, tb A) 4) i).1 := fun i => Nat.le_trans (ge1 4) (apW_ge b _ (Nat.zero_le i))
  have low3 : ∀ i j, j < tn A → (apW c (apW b (apW a (tn A, tb A) 4) 4) i).2 j = tb A j := fun i j hj => (apW_low c _ (Nat.lt_of_lt_of_le hj (ge2 4)) i).trans (low2 4 j hj)
  have ge3 : ∀ i, tn A ≤ (apW c (apW b (apW a (tn A, tb A) 4) 4) i).1 := fun i => Nat.le_trans (ge2 4) (apW_ge c _ (Nat.zero_le i))
  have low4 : ∀ i j, j < tn A → (apW d (apW c (apW b (apW a (tn A, tb A) 4) 4) 4) i).2 j = tb A j := fun i j hj => (apW_low d _ (Nat.lt_of_lt_of_le hj (ge3 4)) i).trans (low3 4 j hj)
  have ge4 : ∀ i, tn A ≤ (apW d (apW c (apW b (apW a (tn A, tb A) 4) 4) 4) i).1 := fun i => Nat.le_trans (ge3 4) (apW_ge d _ (Nat.zero_le i))
  have low5 : ∀ i j, j < tn A → (apW e (apW d (apW c (apW b (apW a (tn A, tb A) 4) 4) 4) 4) i).2 j = tb A j := fun i j hj => (apW_low e _ (Nat.lt_of_lt_of_le hj (ge4 4)) i).trans (low4 4 j hj)
  have ge5 : ∀ i, tn A ≤ (apW e (apW d (apW c (apW b (apW a (tn A, tb A) 4) 4) 4) 4) i).1 := fun i => Nat.le_trans (ge4 4) (apW_ge e _ (Nat.zero_le i))
  have g5 : (apW d (apW c (apW b (apW a (tn A, tb A) 4) 4) 4) 4).1 ≤ (fd5 a b c d e (tn A, tb A)).1 := apW_ge e _ (Nat.zero_le 4)
  have g4 : (apW c (apW b (apW a (tn A, tb A) 4) 4) 4).1 ≤ (fd5 a b c d e (tn A, tb A)).1 := Nat.le_trans (apW_ge d _ (Nat.zero_le 4)) g5
  have g3 : (apW b (apW a (tn A, tb A) 4) 4).1 ≤ (fd5 a b c d e (tn A, tb A)).1 := Nat.le_trans (apW_ge c _ (Nat.zero_le 4)) g4
  have g2 : (apW a (tn A, tb A) 4).1 ≤ (fd5 a b c d e (tn A, tb A)).1 := Nat.le_trans (apW_ge b _ (Nat.zero_le 4)) g3
  have fail : ∀ {p : Nat × (Nat → Nat)} {s τ : Sg}, Kp B σ s → St B wa τ (setTn A p.1 p.2) → Kp B s τ → tn A ≤ p.1 → (∀ j, j < tn A → p.2 j = tb A j) → 160 < (fd5 a b c d e (tn A, tb A)).1 → ∃ r A' σ', mX9_feed_70 n τ B (iI (tn A)) = some (iI r, σ') ∧ St B wa σ' A' ∧ Kp B σ σ' ∧ Feed A a b c d e A' r := by
    intro p s τ hk hs hk2 hp hl hbig
    obtain ⟨σ', q1, q2, q3⟩ := feed_back (n := n) hs hA hp hl
    exact ⟨-1, A, σ', by rw [q1]; rfl, q2, (hk.trans hk2).trans q3, Or.inr ⟨hbig, rfl, rfl⟩⟩
  obtain ⟨s1, f1, k1⟩ := x_append (n := n) (p := (tn A, tb A)) h a hn
  rcases f1 with ⟨f1, t1⟩ | ⟨f1, i, hi, t1, b1⟩
  rotate_left
  · rw [f1]
    exact fail (Kp.refl B σ) t1 k1 (ge1 i) (low1 i) (by omega)
  rw [f1]
  simp only [Option.bind_some, if_neg i10, t1.1.r3]
  obtain ⟨s2, f2, k2⟩ := x_append (n := n) (p := apW a (tn A, tb A) 4) t1 b hn
  have k2 := k1.trans k2
  rcases f2 with ⟨f2, t2⟩ | ⟨f2, i, hi, t2, b2⟩
  rotate_left
  · rw [f2]
    exact fail (Kp.refl B σ) t2 k2 (ge2 i) (low2 i) (by omega)
  rw [f2]
  simp only [Option.bind_some, if_neg i10, t2.1.r3]
  obtain ⟨s3, f3, k3⟩ := x_append (n := n) (p := apW b (apW a (tn A, tb A) 4) 4) t2 c hn
  have k3 := k2.trans k3
  rcases f3 with ⟨f3, t3⟩ | ⟨f3, i, hi, t3, b3⟩
  rotate_left
  · rw [f3]
    exact fail (Kp.refl B σ) t3 k3 (ge3 i) (low3 i) (by omega)
  rw [f3]
  simp only [Option.bind_some, if_neg i10, t3.1.r3]
  obtain ⟨s4, f4, k4⟩ := x_append (n := n) (p := apW c (apW b (apW a (tn A, tb A) 4) 4) 4) t3 d hn
  have k4 := k3.trans k4
  rcases f4 with ⟨f4, t4⟩ | ⟨f4, i, hi, t4, b4⟩
  rotate_left
  · rw [f4]
    exact fail (Kp.refl B σ) t4 k4 (ge4 i) (low4 i) (by omega)
  rw [f4]
  simp only [Option.bind_some, if_neg i10, t4.1.r3]
  obtain ⟨s5, f5, k5⟩ := x_append (n := n) (p := apW d (apW c (apW b (apW a (tn A, tb A) 4) 4) 4) 4) t4 e hn
  have k5 := k4.trans k5
  rcases f5 with ⟨f5, t5⟩ | ⟨f5, i, hi, t5, b5⟩
  rotate_left
  · rw [f5]
    exact fail (Kp.refl B σ) t5 k5 (ge5 i) (low5 i) b5
  rw [f5]
  have t6 : St B wa s5 (setTn A (fd5 a b c d e (tn A, tb A)).1 (fd5 a b c d e (tn A, tb A)).2) := t5
  simp only [Option.bind_some, if_neg i10, mX9_feed_71, t6.1.r3, t6.1.tsize]
  exact ⟨_, _, s5, rfl, t6, k5, Or.inl ⟨t6.2.2.2.1.1, rfl, rfl⟩⟩
end X44
