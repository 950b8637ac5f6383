/-! ===== the reference: read ===== -/
def M8R (A : AS) (w : Bool) (dp i t : Nat) (u : Pu) (f' : Nat → Int) (e' : Nat → Int → Int) (x : Int32) : Prop :=
  (∃ er : Nat, f' 7 = er ∧ er ≤ 200 ∧ x = iI (-1) ∧ ∀ sm rp, (rp = true ∨ isMv (cb A i) ∨ cb A i = 40) → au A (tn A - i) i dp sm rp = er) ∨ (f' 7 = -1 ∧ ∃ (i' : Nat) (L : List Nat), f' 6 = i' ∧ x = iI (rb A i') ∧ cb A i' ≠ 32 ∧ i < i' ∧ i' ≤ tn A ∧ (∀ sm rp, au A (tn A - i) i dp sm rp = au A (tn A - i') i' dp true false) ∧ (∀ L' j', Sec A i' 1 L' j' → Sec A i t (L ++ L') j') ∧ (w = true → PR f' e' (pfo A L u)))
def MlR (A : AS) (w : Bool) (dp i nn nn' : Nat) (u : Pu) (f' : Nat → Int) (e' : Nat → Int → Int) : Prop :=
  (∃ er : Nat, f' 7 = er ∧ er ≤ 200 ∧ 0 < nn' ∧ au A (tn A - i) i dp (decide (0 < nn)) false = er) ∨ (f' 7 = -1 ∧ ∃ (j : Nat) (L : List Nat), f' 6 = j ∧ j ≤ tn A ∧ stpA A j ∧ nn ≤ nn' ∧ au A (tn A - i) i dp (decide (0 < nn)) false = au A (tn A - j) j dp (decide (0 < nn')) false ∧ (∀ L' j', Sec A j 1 L' j' → Sec A i 1 (L ++ L') j') ∧ (w = true → PR f' e' (pfo A L u)))
section X80
variable {M n : Nat} {σ : Sg} {A : AS} {w : Bool} {d dp : Nat}
theorem PR.f6 {f : Nat → Int} {e : Nat → Int → Int} {u : Pu} (h : PR f e u) (k : Nat) (v : Int) (hk : k ≤ 10) : PR (updZ f k v) e u := by
  obtain ⟨p1, p2, p3, p4, p5, p6⟩ := h
  exact ⟨by rw [updZ_ne _ _ (by omega)]; exact p1, by rw [updZ_ne _ _ (by omega)]; exact p2, by rw [updZ_ne _ _ (by omega)]; exact p3, by rw [updZ_ne _ _ (by omega)]; exact p4, p5, p6⟩
theorem m_88 (hS : Msh M σ) (hA : Wf A) (hm : MoS M n σ A w d dp) (hn : 100000 ≤ n) {i t nn : Nat} {u : Pu} {f : Nat → Int} {e : Nat → Int → Int} (h : MH A f e) (h6 : f 6 = i) (h7 : f 7 = -1) (h8 : f 8 = dp) (hi : i ≤ tn A) (hb : cb A i ≠ 32) (ht : 1 ≤ t ∧ t ≤ 9) (hu : PWf A u) (hP : w = true → PR f e u) :
    ∃ f' e' x, mX10_moves_88 n (mX10_moves n d) (mX10_move n d) (MW M σ f e) M (bB w) (iI (nn : Int)) (iI (rb A i)) (iI (t : Int)) = some (.inl (MW M σ f' e', iI ((nn : Int) + 1), x)) ∧ MH A f' e' ∧ f' 8 = dp ∧ M8R A w dp i t u f' e' x := by
  have W := mAll hS
  have t160 := hA.2.1.1
  obtain ⟨f', e', k1, k2, k3, k4⟩ := hm i t u f e h h6 h7 h8 hi hb ht hu hP
  unfold mX10_moves_88 mX10_moves_115
  simp only [k1, Option.bind_some, W, iI_s1]
  rcases k4 with ⟨er, r1, r2⟩ | ⟨r0, i', L, r1, r2, r3, r4, r5, r6⟩
  · have rr := au_R (A := A) (tn A - i) i dp true true
    have ra := r2 true true (Or.inl rfl)
    rw [r1, if_neg (by rw [iI_m1, iI_eq (by omega) (by omega)]; omega)]
    exact ⟨f', e', _, rfl, k2, k3, Or.inl ⟨er, r1, by omega, rfl, r2⟩⟩
  · rw [r0, if_pos (show iI (-1) = (-1 : Int32) from rfl), m_look1 hS k2 hA r1 (by omega) hn]
    have b := sk_blk (A := A) i'
    have sl := sk_le r3
    have sg := b.1
    refine ⟨_, e', _, rfl, k2.sc (Sc.f 6 _ (by omega)), by rw [updZ_ne _ _ (by omega)]; exact k3, Or.inr ⟨by rw [updZ_ne _ _ (by omega)]; exact r0, sk A i', L, updZ_same _ _ _, rfl, b.2.2, by omega, sl, fun sm rp => ?_, fun L' j' hs => r5 L' j' (Sec.blk b hs), fun z => (r6 z).f6 6 _ (by omega)⟩⟩
    rw [r4 sm rp, au_blk b r3]
theorem m_mloop (hS : Msh M σ) (hA : Wf A) (hm : MoS M n σ A w d dp) (hn : 100000 ≤ n) : ∀ (k i nn : Nat) (u : Pu) (f : Nat → Int) (e : Nat → Int → Int) (fl : Nat), i + k = tn A → cb A i ≠ 32 → MH A f e → f 6 = i → f 7 = -1 → f 8 = dp → PWf A u → (w = true → PR f e u) → nn + k ≤ 300 → k + 2 ≤ fl →
    ∃ f' e' nn', loopM (mX10_moves_L19 n (mX10_moves n d) (mX10_move n d) M (bB w)) fl (MW M σ f e, iI (nn : Int), iI (rb A i)) = some (MW M σ f' e', iI ((nn' : Nat) : Int)) ∧ nn' ≤ 400 ∧ MH A f' e' ∧ f' 8 = dp ∧ MlR A w dp i nn nn' u f' e' := by
  have W := mAll hS
  have t160 := hA.2.1.1
  intro k
  induction k using Nat.strongRecOn with
  | ind k ih =>
    intro i nn u f e fl hk hb h h6 h7 h8 hu hP hnn hfl
    obtain ⟨fl, rfl⟩ : ∃ f', fl = f' + 1 := ⟨fl - 1, by omega⟩
    have rj := rb_or hA i
    have body : mX10_moves_L19 n (mX10_moves n d) (mX10_move n d) M (bB w) (MW M σ f e, iI (nn : Int), iI (rb A i)) = if isMv (cb A i) ∨ cb A i = 40 ∨ isRp (cb A i) then mX10_moves_52 n (mX10_moves n d) (mX10_move n d) (MW M σ f e) M (bB w) (iI (nn : Int)) (iI (rb A i)) else some (.inr (MW M σ f e, iI (nn : Int))) := by
      simp (disch := omega) only [mX10_moves_L19, W, Option.bind_some, h7, m_isStep hA i, iL, bI_0, iI_neg, iI_eq, iI_lt]
      rw [if_pos trivial]
      by_cases m1 : isMv (cb A i)
      · rw [if_neg (fun q => q m1), if_pos (Or.inl m1)]
      · rw [if_pos m1]
        by_cases m2 : cb A i = 40
        · rw [if_pos (by omega), if_pos (Or.inr (Or.inl m2))]
        · rw [if_neg (by omega)]
          by_cases m3 : isRp (cb A i)
          · rw [if_neg (by omega), if_neg (by omega), if_pos (Or.inr (Or.inr m3))]
          · rw [if_neg (show ¬ (isMv (cb A i) ∨ cb A i = 40 ∨ isRp (cb A i)) from fun q => by rcases q with q | q | q; exact m1 q; exact m2 q; exact m3 q)]
            by_cases m4 : rb A i < 50
            · rw [if_pos m4]
            · rw [if_neg m4, if_pos (by omega)]
    simp only [loopM, body]
    by_cases st : isMv (cb A i) ∨ cb A i = 40 ∨ isRp (cb A i)
    · rw [if_pos st]
      have il := cb_in (A := A) (i := i) (by omega)
      have e52 : ∃ (i2 t : Nat) (f2 : Nat → Int), mX10_moves_52 n (mX10_moves n d) (mX10_move n d) (MW M σ f e) M (bB w) (iI (nn : Int)) (iI (rb A i)) = mX10_moves_88 n (mX10_moves n d) (mX10_move n d) (MW M σ f2 e) M (bB w) (iI (nn : Int)) (iI (rb A i2)) (iI (t : Int)) ∧ MH A f2 e ∧ f2 6 = i2 ∧ f2 7 = -1 ∧ f2 8 = dp ∧ (w = true → PR f2 e u) ∧ i ≤ i2 ∧ i2 ≤ tn A ∧ cb A i2 ≠ 32 ∧ 1 ≤ t ∧ t ≤ 9 ∧ (∀ L j, Sec A i2 t L j → Sec A i 1 L j) ∧ ∃ rp, (rp = true ∨ isMv (cb A i2) ∨ cb A i2 = 40) ∧ au A (tn A - i) i dp (decide (0 < nn)) false = au A (tn A - i2) i2 dp (decide (0 < nn)) rp := by
        by_cases m3 : isRp (cb A i)
        · have b := sk_blk (A := A) (i + 1)
          have sl := sk_le (A := A) (i := i + 1) (by omega)
          have sg := b.1
          have lk := m_look1 (n := n) (f := updZ f 6 ((i : Int) + 1)) (e := e) hS (h.sc (Sc.f 6 _ (by omega))) hA (i := i + 1) (updZ_same _ _ _) (by omega) hn
          rw [updZ_2] at lk
          refine ⟨sk A (i + 1), cb A i - 48, updZ f 6 (sk A (i + 1) : Nat), ?_, h.sc (Sc.f 6 _ (by omega)), updZ_same _ _ _, by rw [updZ_ne _ _ (by omega)]; exact h7, by rw [updZ_ne _ _ (by omega)]; exact h8, fun z => (hP z).f6 6 _ (by omega), by omega, sl, b.2.2, by omega, by omega, fun L j hs => Sec.rep m3 (Sec.blk b hs), true, Or.inl rfl, ?_⟩
          · unfold mX10_moves_52
            simp (disch := omega) only [iL, iI_lt, nm, iI_sub, W, Option.bind_some, h6, iI_add, lk]
            rw [if_neg (by omega), if_neg (by omega), show rb A i - 48 = ((cb A i - 48 : Nat) : Int) by omega]
          · rw [au_in il, if_neg (fun q => by omega), if_pos ⟨m3, rfl⟩, au_blk b (by omega)]
        · refine ⟨i, 1, f, ?_, h, h6, h7, h8, hP, Nat.le_refl _, by omega, hb, by omega, by omega, fun L j hs => hs, false, Or.inr (by omega), rfl⟩
          unfold mX10_moves_52
          simp (disch := omega) only [iL, iI_lt]
          by_cases m4 : rb A i < 50
          · rw [if_pos m4]; rfl
          · rw [if_neg m4, if_pos (by omega)]; rfl
      obtain ⟨i2, t, f2, q1, q2, q3, q4, q5, q6, q7, q8, q9, q10, q11, q12, rp, q13, q14⟩ := e52
      obtain ⟨f', e', x, p1, p2, p3, p4⟩ := m_88 (n := n) (nn := nn) hS hA hm hn q2 q3 q4 q5 q8 q9 ⟨q10, q11⟩ hu q6
      rw [q1, p1]
      simp only
      rcases p4 with ⟨er, r1, r2, r3, r4⟩ | ⟨r0, i4, L, r1, r2, r3, r4, r5, r6, r7, r8⟩
      · obtain ⟨fl, rfl⟩ : ∃ f', fl = f' + 1 := ⟨fl - 1, by omega⟩
        refine ⟨f', e', nn + 1, ?_, by omega, p2, p3, Or.inl ⟨er, r1, r2, by omega, by rw [q14]; exact r4 _ _ q13⟩⟩
        simp only [loopM, mX10_moves_L19, W, Option.bind_some, r1]
        rw [if_neg (by rw [iI_m1, iI_eq (by omega) (by omega)]; omega)]
        rfl
      · rw [r2]
        obtain ⟨f5, e5, nn5, k1, k2, k3, k4, k5⟩ := ih (tn A - i4) (by omega) i4 (nn + 1) (pfo A L u) f' e' fl (by omega) r3 p2 r1 r0 p3 (pfo_wf hA _ _ hu) r8 (by omega) (by omega)
        have k1' : loopM (mX10_moves_L19 n (mX10_moves n d) (mX10_move n d) M (bB w)) fl (MW M σ f' e', iI ((nn : Int) + 1), iI (rb A i4)) = some (MW M σ f5 e5, iI ((nn5 : Nat) : Int)) := k1
        refine ⟨f5, e5, nn5, k1', k2, k3, k4, ?_⟩
        have dt : decide (0 < nn + 1) = true := decide_eq_true (by omega)
        have ea : au A (tn A - i) i dp (decide (0 < nn)) false = au A (tn A - i4) i4 dp (decide (0 < nn + 1)) false := by
          rw [q14, r6, dt]
        rcases k5 with ⟨er, s1, s2, s3, s4⟩ | ⟨s0, j, L2, s1, s2, s3, s4, s5, s6, s7⟩
        · exact Or.inl ⟨er, s1, s2, s3, by rw [ea]; exact s4⟩
        · refine Or.inr ⟨s0, j, L ++ L2, s1, s2, s3, by omega, by rw [ea]; exact s5, fun L' j' hs => ?_, fun z => ?_⟩
          · rw [List.append_assoc]
            exact q12 _ _ (r7 _ _ (s6 L' j' hs))
          · rw [pfo_app]; exact s7 z
    · rw [if_neg st]
      refine ⟨f, e, nn, rfl, by omega, h, h8, Or.inr ⟨h7, i, [], h6, by omega, ⟨hb, fun q => st (Or.inl q), fun q => st (Or.inr (Or.inr q)), fun q => st (Or.inr (Or.inl q))⟩, Nat.le_refl _, rfl, fun L' j' hs => hs, fun z => hP z⟩⟩
theorem m_moves (hS : Msh M σ) (hA : Wf A) (hm : MoS M n σ A w d dp) (hn : 100000 ≤ n) : MvS M n σ A w (d + 1) dp := by
  have W := mAll hS
  have t160 := hA.2.1.1
  intro i u f e h h6 h7 h8 hi hu hP
  have eq : mX10_moves n (d + 1) (MW M σ f e) M (bB w) = eX10_moves n (mX10_moves n d) (mX10_move n d) (MW M σ f e) M (bB w) := rfl
  have b := sk_blk (A := A) i
  have sl := sk_le hi
  rw [eq]
  unfold eX10_moves mX10_moves_18
  simp only [W, Option.bind_some, h7, m_look1 hS h hA h6 (show i ≤ 200 by omega) hn]
  rw [if_pos (show iI (-1) = (-1 : Int32) from rfl)]
  obtain ⟨f', e', nn', k1, k2, k3, k4, k5⟩ := m_mloop (n := n) hS hA hm hn (tn A - sk A i) (sk A i) 0 u (updZ f 6 (sk A i : Nat)) e n (by omega) b.2.2 (h.sc (Sc.f 6 _ (by omega))) (updZ_same _ _ _) (by rw [updZ_ne _ _ (by omega)]; exact h7) (by rw [updZ_ne _ _ (by omega)]; exact h8) hu (fun z => (hP z).f6 6 _ (by omega)) (by omega) (by omega)
  have k1' : loopM (mX10_moves_L19 n (mX10_moves n d) (mX10_move n d) M (bB w)) n (MW M σ (updZ f 6 (sk A i : Nat)) e, (0 : Int32), iI (rb A (sk A i))) = some (MW M σ f' e', iI ((nn' : Nat) : Int)) := k1
  simp only [k1', Option.bind_some, mX10_moves_119]
  have d0 : decide (0 < 0) = false := rfl
  rw [MlR, d0] at k5
  rcases k5 with ⟨er, s1, s2, s3, s4⟩ | ⟨s0, j, L2, s1, s2, s3, s4, s5, s6, s7⟩
  · rw [if_neg (by rw [iI_0, iI_eq (by omega) (by omega)]; omega)]
    exact ⟨f', e', rfl, k3, k4, Or.inl ⟨er, s1, by rw [au_blk b hi]; exact s4⟩⟩
  · by_cases c : nn' = 0
    · rw [if_pos (by rw [c]; rfl), m_bad hS s0 s1 (RI.sm (by omega) (by omega)), if_pos rfl]
      refine ⟨_, e', rfl, k3.sc (Sc.f 7 _ (by omega)), by rw [updZ_ne _ _ (by omega)]; exact k4, Or.inl ⟨j, updZ_same _ _ _, ?_⟩⟩
      rw [au_blk b hi, s5]
      have d1 : decide (0 < nn') = false := decide_eq_false (by omega)
      rw [d1]
      exact au_bad s2 s3.1 s3.2.1 (fun q => s3.2.2.1 q.1) (fun q => s3.2.2.2 q.1) (fun q => by cases q.2.1) (fun q => by cases q.2.2.1)
    · rw [if_neg (by rw [iI_0, iI_eq (by omega) (by omega)]; omega)]
      have d1 : decide (0 < nn') = true := decide_eq_true (by omega)
      rw [d1] at s5
      exact ⟨f', e', rfl, k3, k4, Or.inr ⟨s0, j, L2, s1, s2, s3, by rw [au_blk b hi]; exact s5, fun L' j' hs => Sec.blk b (s6 L' j' hs), s7⟩⟩
theorem m_moves9 (hS : Msh M σ) (hA : Wf A) (hn : 100000 ≤ n) : MvS M n σ A w 9 0 := by
  have a3 : MvS M n σ A w 3 3 := m_moves hS hA (m_move (d := 1) hS hA (by omega) (fun q => by omega) hn) hn
  have a2 : MvS M n σ A w 5 2 := m_moves hS hA (m_move hS hA (by omega) (fun _ => a3) hn) hn
  have a1 : MvS M n σ A w 7 1 := m_moves hS hA (m_move hS hA (by omega) (fun _ => a2) hn) hn
  exact m_moves hS hA (m_move hS hA (by omega) (fun _ => a1) hn) hn
end X80
