/-! ===== the class: walk ===== -/
section X88
variable {B n : Nat} {wa : Nat → Nat} {σ : Sg} {A : AS}
theorem sV_ref {s : Sg} {t a m : Nat} {z : Int} {v : Value} (h : s.2.1 a = some (t, m)) (h0 : 0 ≤ z) (h1 : z < m) (hm : m < 2147483648) : sV t s a (iI z) v = some (setF s a z.toNat v) := by
  simp only [sV, h]
  rw [if_pos ⟨trivial, in_ok h0 h1 hm⟩, iI_clamp h0 (by omega)]
  rfl
/-- a walk more -/
theorem St.walk (h : St B wa σ A) (h8 : wn A < 8) {q : Nat} {w : Wk} {s : Sg} (hq : q = σ.1) (h1 : s.1 = q + 4) (hs : ∀ a, a < q → s.2.1 a = σ.2.1 a) (hm : ∀ a, a < q → a ≠ B → a ≠ B + 1 → a ≠ B + 3 → a ≠ B + 46 → a ≠ B + 47 → a ≠ B + 48 → a ≠ B + 49 → s.2.2 a = σ.2.2 a) (m0 : ∀ k, k ≠ 6 → s.2.2 B k = σ.2.2 B k) (m06 : s.2.2 B 6 = .int (iI ((wn A : Int) + 1))) (m10 : s.2.2 (B + 1) 0 = σ.2.2 (B + 1) 0) (m11 : s.2.2 (B + 1) 1 = .int (iI 0)) (m3 : ∀ k, k ≠ wn A → s.2.2 (B + 3) k = σ.2.2 (B + 3) k) (m3w : s.2.2 (B + 3) (wn A) = .ref q) (m46 : ∀ k, k ≠ 3 → s.2.2 (B + 46) k = σ.2.2 (B + 46) k) (i7 : IsI s (B + 47)) (i8 : IsI s (B + 48)) (i9 : IsI s (B + 49)) (hw : WalkAt s q w) (hwf : WWf A w) : St B (fun k => if k = wn A then q else wa k) s (addW A w) ∧ Kp B σ s := by
  obtain ⟨hC, ⟨a, b, c, a1, a2, a3, a4, a5, a6, a7, a8, a9⟩, hA⟩ := h
  have hz : B + 90 ≤ σ.1 := hC.2.2.2.2.2.2.2.2.2.2.2.2
  have h20 := hA.2.2.2.1.1
  obtain ⟨k0, kt, kw, kf, ks⟩ := hC.split
  have at_ : ∀ r, r < 90 → r ≠ 0 → r ≠ 1 → r ≠ 3 → r ≠ 46 → r ≠ 47 → r ≠ 48 → r ≠ 49 → s.2.2 (B + r) = σ.2.2 (B + r) := fun r g1 g2 g3 g4 g5 g6 g7 g8 => hm _ (by omega) (by omega) (by omega) (by omega) (by omega) (by omega) (by omega) (by omega)
  have sh : ∀ r, r < 90 → s.2.1 (B + r) = σ.2.1 (B + r) := fun r hr => hs _ (by omega)
  have nok : ∀ r r', r < 44 → r' < 44 → 6 ≤ r → 6 ≤ r' → NetOK σ (B + r) (B + r') → NetOK s (B + r) (B + r') := fun r r' x1 x2 x3 x4 ⟨p, e, hp, hN, hB⟩ => by
    refine ⟨p, e, hp, ?_, hB⟩
    unfold NetAt at hN ⊢
    rw [sh _ (by omega), sh _ (by omega), at_ r (by omega) (by omega) (by omega) (by omega) (by omega) (by omega) (by omega) (by omega), at_ r' (by omega) (by omega) (by omega) (by omega) (by omega) (by omega) (by omega) (by omega)]
    exact hN
  refine ⟨⟨RC.join ?_ ⟨m11, ?_⟩ ⟨m06, fun i hi => ?_, fun i h1' h2' => ?_, fun v w' h1' h2' => ?_⟩ (kf.same (fun r hr => sh r (by omega)) h20 (m0 8 (by omega)) (fun r x1 x2 => at_ r (by omega) (by omega) (by omega) (by omega) (by omega) (by omega) (by omega) (by omega))) (ks.same (m0 10 (by omega)) (at_ 5 (by omega) (by omega) (by omega) (by omega) (by omega) (by omega) (by omega) (by omega))), ⟨nok _ _ (by omega) (by omega) (by omega) (by omega) a, fun k hk => nok _ _ (by omega) (by omega) (by omega) (by omega) (b k hk), fun k hk => nok _ _ (by omega) (by omega) (by omega) (by omega) (c k hk), a1.same (at_ _ (by omega) (by omega) (by omega) (by omega) (by omega) (by omega) (by omega) (by omega)), a2.same (at_ _ (by omega) (by omega) (by omega) (by omega) (by omega) (by omega) (by omega) (by omega)), a3.same (at_ _ (by omega) (by omega) (by omega) (by omega) (by omega) (by omega) (by omega) (by omega)), a4.same (at_ _ (by omega) (by omega) (by omega) (by omega) (by omega) (by omega) (by omega) (by omega)), a5.same (at_ _ (by omega) (by omega) (by omega) (by omega) (by omega) (by omega) (by omega) (by omega)), a6.same (at_ _ (by omega) (by omega) (by omega) (by omega) (by omega) (by omega) (by omega) (by omega)), i7, i8, i9⟩, ?_⟩, ?_⟩
  · refine k0.same (by omega) (fun r hr => sh r (by omega)) (fun r k hr hq' => ?_)
    by_cases r0 : r = 0
    · subst r0
      by_cases k6 : k = 6
      · subst k6; cases hq'
      · exact m0 k k6
    · by_cases r1 : r = 1
      · subst r1
        by_cases k0' : k = 0
        · subst k0'; exact m10
        · exfalso
          by_cases k1' : k = 1
          · subst k1'; cases hq'
          · have d2 : decide (2 ≤ k) = true := decide_eq_true (by omega)
            have : sp 1 k = true := by unfold sp; rw [d2]; rfl
            unfold sq at hq'
            rw [this] at hq'
            cases hq'
      · by_cases r3 : r = 3
        · subst r3
          exfalso
          unfold sq at hq'
          simp at hq'
        · by_cases r46 : r = 46
          · subst r46
            by_cases k3 : k = 3
            · subst k3; cases hq'
            · exact m46 k k3
          · by_cases r47 : r = 47
            · subst r47; cases hq'
            · by_cases r48 : r = 48
              · subst r48; cases hq'
              · by_cases r49 : r = 49
                · subst r49; cases hq'
                · rw [at_ r (by omega) r0 r1 r3 r46 r47 r48 r49]
  · obtain ⟨e, e1, -⟩ := kt.2
    exact ⟨e, by rw [at_ 2 (by omega) (by omega) (by omega) (by omega) (by omega) (by omega) (by omega) (by omega)]; exact e1, fun k hk => by have hk' : k < 0 := hk; omega⟩
  · have hi' : i < wn A + 1 := hi
    show s.2.2 (B + 3) i = .ref (if i = wn A then q else wa i) ∧ WalkAt s (if i = wn A then q else wa i) (if i = wn A then w else wk A i) ∧ B + 90 ≤ (if i = wn A then q else wa i) ∧ (if i = wn A then q else wa i) + 4 ≤ s.1
    by_cases ci : i = wn A
    · rw [if_pos ci, if_pos ci, ci]
      exact ⟨m3w, hw, by omega, by omega⟩
    · rw [if_neg ci, if_neg ci]
      obtain ⟨g1, g2, g3, g4⟩ := kw.2.1 i (by omega)
      refine ⟨by rw [m3 i ci]; exact g1, ?_, g3, by omega⟩
      unfold WalkAt at g2 ⊢
      rw [hs _ (by omega), hs _ (by omega), hs _ (by omega), hs _ (by omega), hm _ (by omega) (by omega) (by omega) (by omega) (by omega) (by omega) (by omega) (by omega), hm _ (by omega) (by omega) (by omega) (by omega) (by omega) (by omega) (by omega) (by omega), hm _ (by omega) (by omega) (by omega) (by omega) (by omega) (by omega) (by omega) (by omega), hm _ (by omega) (by omega) (by omega) (by omega) (by omega) (by omega) (by omega) (by omega)]
      exact g2
  · have h1'' : wn A + 1 ≤ i := h1'
    rw [m3 i (by omega)]
    exact kw.2.2.1 i (by omega) h2'
  · have h2'' : w' < wn A + 1 := h2'
    show (if v = wn A then q else wa v) + 4 ≤ if w' = wn A then q else wa w'
    rw [if_neg (show ¬ v = wn A by omega)]
    by_cases cw : w' = wn A
    · rw [if_pos cw]
      have := (kw.2.1 v (by omega)).2.2.2
      omega
    · rw [if_neg cw]
      exact kw.2.2.2 v w' h1' (by omega)
  · obtain ⟨w1, w2, ⟨w3, w3'⟩, ⟨w4, w4'⟩, w5⟩ := hA
    refine ⟨w1, ⟨by show 0 ≤ 160; omega, fun k hk => by have hk' : k < 0 := hk; omega⟩, ⟨by show wn A + 1 ≤ 8; omega, fun i hi => ?_⟩, ⟨w4, fun f hf => ?_⟩, w5⟩
    · have hi' : i < wn A + 1 := hi
      show WWf (addW A w) (if i = wn A then w else wk A i)
      by_cases ci : i = wn A
      · rw [if_pos ci]; exact hwf
      · rw [if_neg ci]; exact w3' i (by omega)
    · obtain ⟨x1, x2, x3, x4, x5⟩ := w4' f hf
      exact ⟨x1, x2, Nat.le_succ_of_le x3, Nat.le_succ_of_le x4, x5⟩
  · exact ⟨by omega, fun a ha => hs a (by omega), fun a g1 g2 => hm a (by omega) (by omega) (by omega) (by omega) (by omega) (by omega) (by omega) (by omega)⟩
theorem x_walk (h : St B wa σ A) {p b : Int} (hp : RI p) (hb : RI b) (hn : 2000000 ≤ n) : ∃ r A' wa' σ', mX9_walk n σ B (iI p) (iI b) = some (iI r, σ') ∧ St B wa' σ' A' ∧ Kp B σ σ' ∧ WalkQ A p b A' r := by
  have hA := h.2.2
  have w8 := hA.2.2.1.1
  have t160 := hA.2.1.1
  have wd := hA.1
  unfold RI at hp hb
  have no : ∀ s, mX9_walk_25 n s B (iI p) (iI b) = some (iI (-1), s) := fun s => by
    unfold mX9_walk_25 mX9_walk_26
    rw [if_pos rfl]
    rfl
  unfold mX9_walk
  simp (disch := omega) only [h.1.o, Option.bind_some, no, iL, iI_lt]
  by_cases c1 : 1 ≤ p ∧ p ≤ 9
  · rw [if_neg (by omega), if_neg (by omega)]
    by_cases c2 : 0 ≤ b ∧ b ≤ 9
    · rw [if_neg (by omega), if_neg (by omega)]
      unfold mX9_walk_26
      simp (disch := omega) only [h.1.qwn, Option.bind_some, iL, iI_le]
      rw [if_neg (by decide)]
      by_cases c3 : wn A < 8
      · rw [if_neg (by omega)]
        obtain ⟨g', k1, k2, k3⟩ := x_wrongAt (n := n) (g := σ.2.2 (B + 1)) h (fun _ _ => rfl) (by omega)
        rw [TT_id] at k1
        obtain ⟨S5, F5⟩ := TT_St h k2
        simp only [h.1.r3, h.1.qwide, h.1.qdeep, Option.bind_some, k1]
        by_cases c4 : flt A = -1
        · obtain ⟨x1, x4, x5, x6⟩ := k3 c4
          obtain ⟨y1, y2, y3⟩ := hd_wf x1
          rw [c4, if_pos (show iI (-1) = -iI 1 by decide)]
          generalize hs5 : TT B σ g' = s5 at S5 F5
          have z5 : s5.1 = σ.1 := F5.1
          have hz : B + 90 ≤ σ.1 := h.1.2.2.2.2.2.2.2.2.2.2.2.2
          have t5 : ∀ k, s5.2.2 (B + 1) k = g' k := fun k => by rw [← hs5, TT_at]
          have Mk0 : Mk s5 σ.1 0 (fun j => defaultValue (tyX8 j)) (nw s5 8 9 (fun j => defaultValue (tyX8 j))) := ⟨by rw [nw_1, z5], nw_sn _ _ _ _ z5.symm, nw_mn _ _ _ _ z5.symm, fun a ha => ⟨nw_so _ _ _ _ (by omega), nw_mo _ _ _ _ (by omega)⟩, fun k q1 q2 => by omega⟩
          generalize hs9 : nw s5 8 9 (fun j => defaultValue (tyX8 j)) = s9 at Mk0
          have S9 : St B wa s9 A := S5.ext (by rw [Mk0.1]; omega) (fun a ha => (Mk0.2.2.2.1 a (by omega)).1) (fun a ha => (Mk0.2.2.2.1 a (by omega)).2)
          have nwE : nwO 8 9 (fun j => defaultValue (tyX8 j)) s5 = some (σ.1, s9) := by rw [← hs9, ← z5]; rfl
          have g4 : toI (gV 7 s9 (B + 1) 4) = some (iI ((hdF A).2.1 : Int)) := gI_ok S9.1.t (by omega) (by rw [(Mk0.2.2.2.1 _ (by omega)).2, t5]; exact x4)
          have g5 : toI (gV 7 s9 (B + 1) 5) = some (iI ((hdF A).2.2.1 : Int)) := gI_ok S9.1.t (by omega) (by rw [(Mk0.2.2.2.1 _ (by omega)).2, t5]; exact x5)
          have cA := x_cellAt (n := n) S9.1 hA (x := ((hdF A).2.1 : Int)) (y := ((hdF A).2.2.1 : Int)) (RI.sm (by omega) (by omega)) (RI.sm (by omega) (by omega))
          have cAv : cAt A ((hdF A).2.1 : Int) ((hdF A).2.2.1 : Int) = ((16 * (hdF A).2.2.1 + (hdF A).2.1 : Nat) : Int) := by
            unfold cAt
            rw [if_pos (by omega)]
            omega
          rw [cAv] at cA
          obtain ⟨s17, i1, i2, i3, i4⟩ := x_wInit (n := n) (p := p.toNat) (b := b.toNat) Mk0 (show 16 * (hdF A).2.2.1 + (hdF A).2.1 < 256 by omega) (by omega)
          rw [show ((p.toNat : Nat) : Int) = p by omega, show ((b.toNat : Nat) : Int) = b by omega] at i1
          have S17 : St B wa s17 A := S5.ext (by rw [i2]; omega) (fun a ha => (i3 a (by omega)).1) (fun a ha => (i3 a (by omega)).2)
          have U0 := u0_wf hA c4
          obtain ⟨L, hL⟩ := flt_sec c4
          have P0 : PL0 B σ.1 wa s17 A := ⟨S17, hz, by rw [i2]; omega, fun w hw => (h.1.2.2.2.2.2.2.2.2.2.1 w hw).2.2.2⟩
          obtain ⟨ea, h48⟩ := S17.2.1.2.2.2.2.2.2.2.2.2.2.1
          obtain ⟨eb, h49⟩ := S17.2.1.2.2.2.2.2.2.2.2.2.2.2
          obtain ⟨s20, ea', eb', p1, p2⟩ := x_play (n := n) (u := u0 A) (L := L) (m := (hdF A).2.2.2) P0 (PlB.refl B s17 σ.1) i4 S17.2.1.2.2.2.2.2.2.2.2.2.1 h48 h49 U0 rfl (by rw [(i3 _ (by omega)).2, t5]; exact x6) y3 (flt_hd c4).2 hL hn
          have U1 := pfo_wf hA L (u0 A) U0
          have S20 : St B wa s20 A := p2.st P0
          obtain ⟨⟨b1, b2, b3, b4⟩, pW, ⟨lc, el, l1, l2, l3, l4⟩, p8, p9⟩ := p2
          obtain ⟨s21, j1, j2, j3, j4, j5⟩ := x_list (n := n) pW U1.1 (by omega)
          have z21 : s21.1 = σ.1 + 4 := by rw [j3, b1, i2]
          have S21 : St B wa s21 A := by
            have q1 : PlB B s17 σ.1 s21 := PlB.hi ⟨b1, b2, b3, b4⟩ hz j3 j4 j5
            exact P0.1.pl P0.2.1 P0.2.2.1 P0.2.2.2 q1 ⟨el, by rw [j5 _ (by omega)]; exact l3⟩ ⟨ea', by rw [j5 _ (by omega)]; exact p8⟩ ⟨eb', by rw [j5 _ (by omega)]; exact p9⟩
          have sh21 : ∀ a, a < σ.1 → s21.2.1 a = σ.2.1 a := fun a ha => by rw [j4, b2, (i3 a ha).1, F5.2.1]
          have m21 : ∀ a, a < σ.1 → a ≠ B + 1 → a ≠ B + 46 → a ≠ B + 47 → a ≠ B + 48 → a ≠ B + 49 → s21.2.2 a = σ.2.2 a := fun a ha g1 g2 g3 g4 g5 => by
            rw [j5 a ha, b3 a ha g2 g3 g4 g5, (i3 a ha).2, ← hs5, TT_ne g1]
          have m1 : ∀ k, s21.2.2 (B + 1) k = g' k := fun k => by
            rw [j5 _ (by omega), b3 _ (by omega) (by omega) (by omega) (by omega) (by omega), (i3 _ (by omega)).2, t5]
          have m46 : ∀ k, k ≠ 3 → s21.2.2 (B + 46) k = σ.2.2 (B + 46) k := fun k hk => by
            rw [j5 _ (by omega), b4 k hk, (i3 _ (by omega)).2, ← hs5, TT_ne (by omega)]
          have t21 : s21.2.1 (B + 1) = some (7, 7) := S21.1.t
          have cut : mX7_cut n s21 (B + 1) (iI 0) = some ((1 : Int32), setF s21 (B + 1) 1 (.int (iI 0))) := by
            unfold mX7_cut
            simp only [isO_ok t21, Option.bind_some, S21.1.tsize, iI_0, pV_ok t21 (show 1 < 7 by omega)]
            rw [if_neg (by decide), if_pos (by rw [iI_le (by omega) (by omega)]; omega)]
          generalize hs23 : setF s21 (B + 1) 1 (.int (iI 0)) = s23 at cut
          have sh23 : s23.2.1 = s21.2.1 := by rw [← hs23]; rfl
          have n23 : ∀ a, a ≠ B + 1 → s23.2.2 a = s21.2.2 a := fun a ha => by rw [← hs23, setF_ne _ _ _ ha]
          have B0 : s23.2.1 B = some (9, 18) := by rw [sh23]; exact S21.1.x
          have B3 : s23.2.1 (B + 3) = some (13, 8) := by rw [sh23]; exact S21.1.sh 3 (by omega)
          have q5 : toR (gV 9 s23 B 5) = some (B + 3) := gR_ok B0 (by omega) (by rw [n23 _ (by omega)]; exact S21.1.pt 2 rfl)
          have q6 : toI (gV 9 s23 B 6) = some (iI (wn A)) := gI_ok B0 (by omega) (by rw [n23 _ (by omega)]; exact S21.1.2.2.2.2.2.1.2.2.2.1)
          have o8 : isO 8 s23 σ.1 = some () := isO_ok (n := 9) (by rw [sh23]; exact j2.1.1)
          have w28 : sV 13 s23 (B + 3) (iI (wn A : Int)) (.ref σ.1) = some (setF s23 (B + 3) (wn A) (.ref σ.1)) := sV_ref (z := (wn A : Int)) B3 (by omega) (by omega) (by omega)
          have B0' : (setF s23 (B + 3) (wn A) (.ref σ.1)).2.1 B = some (9, 18) := B0
          have q6' : toI (gV 9 (setF s23 (B + 3) (wn A) (.ref σ.1)) B 6) = some (iI (wn A)) := gI_ok B0' (by omega) (by rw [setF_ne _ _ _ (by omega), n23 _ (by omega)]; exact S21.1.2.2.2.2.2.1.2.2.2.1)
          have B0'' : (setF (setF s23 (B + 3) (wn A) (.ref σ.1)) B 6 (.int (iI ((wn A : Int) + 1)))).2.1 B = some (9, 18) := B0
          have q6'' : toI (gV 9 (setF (setF s23 (B + 3) (wn A) (.ref σ.1)) B 6 (.int (iI ((wn A : Int) + 1)))) B 6) = some (iI ((wn A : Int) + 1)) := gI_ok B0'' (by omega) (setF_self _ _ _ _)
          have s20b : ∀ k, s21.2.2 B k = σ.2.2 B k := fun k => by rw [m21 B (by omega) (by omega) (by omega) (by omega) (by omega) (by omega)]
          simp only [nwE, Option.bind_some, S9.1.r3, g4, g5, cA, i1, S17.1.r3, S17.1.r4, p1, j1, S21.1.r3, cut, q5, q6, o8, w28, q6', iI_add, pV_ok B0' (show 6 < 18 by omega), q6'', iI_sub]
          refine ⟨_, addW A (newW A p b L), (fun k => if k = wn A then σ.1 else wa k), _, rfl, ?_⟩
          have fin := h.walk (q := σ.1) (w := newW A p b L) (s := setF (setF s23 (B + 3) (wn A) (.ref σ.1)) B 6 (.int (iI ((wn A : Int) + 1)))) c3 rfl (by rw [← hs23]; exact z21) (fun a ha => by rw [← hs23]; exact sh21 a ha) (fun a g0 g1 g2 g3 g4 g5 g6 g7 => by rw [setF_ne _ _ _ g1, setF_ne _ _ _ g3, n23 a g2]; exact m21 a g0 g2 g4 g5 g6 g7) (fun k hk => by rw [setF_k _ _ _ hk, setF_ne _ _ _ (by omega), n23 _ (by omega)]; exact s20b k) (setF_self _ _ _ _) (by rw [setF_ne _ _ _ (by omega), setF_ne _ _ _ (by omega), ← hs23, setF_k _ _ _ (by omega), m1]; exact k2 0 (by omega)) (by rw [setF_ne _ _ _ (by omega), setF_ne _ _ _ (by omega), ← hs23, setF_self]) (fun k hk => by rw [setF_ne _ _ _ (by omega), setF_k _ _ _ hk, n23 _ (by omega), m21 _ (by omega) (by omega) (by omega) (by omega) (by omega) (by omega)]) (by rw [setF_ne _ _ _ (by omega), setF_self]) (fun k hk => by rw [setF_ne _ _ _ (by omega), setF_ne _ _ _ (by omega), n23 _ (by omega)]; exact m46 k hk) ⟨el, by rw [setF_ne _ _ _ (by omega), setF_ne _ _ _ (by omega), n23 _ (by omega), j5 _ (by omega)]; exact l3⟩ ⟨ea', by rw [setF_ne _ _ _ (by omega), setF_ne _ _ _ (by omega), n23 _ (by omega), j5 _ (by omega)]; exact p8⟩ ⟨eb', by rw [setF_ne _ _ _ (by omega), setF_ne _ _ _ (by omega), n23 _ (by omega), j5 _ (by omega)]; exact p9⟩ (j2.same (by rw [← hs23]; rfl) (fun j hj => by rw [setF_ne _ _ _ (by omega), setF_ne _ _ _ (by omega), n23 _ (by omega)])) ⟨by show 1 ≤ p.toNat; omega, by show p.toNat ≤ 9; omega, by show b.toNat ≤ 9; omega, U1.1, by show 0 ≤ day A; omega, U1.2.2.1⟩
          exact ⟨fin.1, fin.2, Or.inl ⟨⟨c1, c2, c3, c4⟩, L, hL, rfl, by omega⟩⟩
        · have fr := flt_R hA
          have ne : ¬ iI (flt A) = -iI 1 := by rw [iI_neg, iI_eq (by omega) (by omega)]; exact c4
          rw [if_neg ne]
          exact ⟨-1, A, wa, _, rfl, S5, F5.kp, Or.inr ⟨fun x => c4 x.2.2.2, rfl, rfl⟩⟩
      · rw [if_pos (by omega)]
        exact ⟨-1, A, wa, σ, rfl, h, Kp.refl B σ, Or.inr ⟨fun x => c3 x.2.2.1, rfl, rfl⟩⟩
    · have e : (if b < 0 then some (iI (-1), σ) else if 9 < b then some (iI (-1), σ) else mX9_walk_26 n σ (iI 1) B (iI p) (iI b)) = some (iI (-1), σ) := by
        by_cases c : b < 0
        · rw [if_pos c]
        · rw [if_neg c, if_pos (by omega)]
      rw [e]
      exact ⟨-1, A, wa, σ, rfl, h, Kp.refl B σ, Or.inr ⟨fun x => c2 x.2.1, rfl, rfl⟩⟩
  · have e : (if p < 1 then some (iI (-1), σ) else if 9 < p then some (iI (-1), σ) else if b < 0 then some (iI (-1), σ) else if 9 < b then some (iI (-1), σ) else mX9_walk_26 n σ (iI 1) B (iI p) (iI b)) = some (iI (-1), σ) := by
      by_cases c : p < 1
      · rw [if_pos c]
      · rw [if_neg c, if_pos (by omega)]
    rw [e]
    exact ⟨-1, A, wa, σ, rfl, h, Kp.refl B σ, Or.inr ⟨fun x => c1 x.1, rfl, rfl⟩⟩
end X88
