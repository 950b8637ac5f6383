/-! ===== the class plays a tape ===== -/
section X85
variable {B n q p b : Nat} {wa : Nat → Nat} {s s0 : Sg} {A : AS} {u tot : Pu} {ea eb : Nat → Int} {i o t c : Nat}
abbrev bdP (n B q : Nat) : (Sg × Int32 × Int32 × Int32 × Int32) → Option ((Sg × Int32 × Int32 × Int32 × Int32) ⊕ Sg) := mX5_play_L19 n (B + 46) (B + 1) q
theorem p_full (h0 : PL0 B q wa s0 A) (h : PL B q p b s0 u ea eb s) (h60 : u.1 = 60) (hc : c ≤ 900000) (hi : i < tn A) (hn : 2000000 ≤ n) (x4 x5 : Int32) : loopM (bdP n B q) (n - c) (s, iI (i : Int), x4, x5, iI (c : Int)) = some s := by
  have hS := h.st h0
  have t160 := hS.2.2.2.1.1
  have w0 := h.2.1.1.1
  have w6 := h.2.1.2.1.2.2.2.2.2.1
  obtain ⟨fl, hfl⟩ : ∃ f', n - c = f' + 1 := ⟨n - c - 1, by omega⟩
  rw [hfl]
  simp (disch := omega) only [loopM, mX5_play_L19, iL, iI_le, hS.1.tsize, Option.bind_some, gI_ok w0 (show 6 < 9 by omega) w6]
  rw [if_neg (by omega), if_neg (by omega), if_pos (by omega)]
theorem p_end (h0 : PL0 B q wa s0 A) (h : PL B q p b s0 u ea eb s) (hc : c ≤ 900000) (hn : 2000000 ≤ n) (x4 x5 : Int32) : loopM (bdP n B q) (n - c) (s, iI (tn A : Int), x4, x5, iI (c : Int)) = some s := by
  have hS := h.st h0
  have t160 := hS.2.2.2.1.1
  obtain ⟨fl, hfl⟩ : ∃ f', n - c = f' + 1 := ⟨n - c - 1, by omega⟩
  rw [hfl]
  simp (disch := omega) only [loopM, mX5_play_L19, iL, iI_le, hS.1.tsize, Option.bind_some]
  rw [if_neg (by omega), if_pos (by omega)]
theorem p_head (h0 : PL0 B q wa s0 A) (h : PL B q p b s0 u ea eb s) (hu : u.1 < 60) (hc : c ≤ 900000) (hi : i < tn A) (hn : 2000000 ≤ n) (x4 x5 : Int32) {c' : Sg × Int32 × Int32 × Int32 × Int32} (H : (if isRp (cb A i) then some (.inl (s, iI ((i + 1 : Nat) : Int), x4, iI ((cb A i - 48 : Nat) : Int), iI ((c + 1 : Nat) : Int))) else mX5_play_77 n s (B + 46) (B + 1) q (iI ((i + 1 : Nat) : Int)) x4 x5 (iI (c : Int)) (iI (cb A i : Nat))) = some (.inl c')) : loopM (bdP n B q) (n - c) (s, iI (i : Int), x4, x5, iI (c : Int)) = loopM (bdP n B q) (n - (c + 1)) c' := by
  have hS := h.st h0
  have t160 := hS.2.2.2.1.1
  have w0 := h.2.1.1.1
  have w6 := h.2.1.2.1.2.2.2.2.2.1
  have cr := cb_R hS.2.2 i
  have e1 : iI (c : Int) + (1 : Int32) = iI ((c + 1 : Nat) : Int) := pt1 c
  have body : bdP n B q (s, iI (i : Int), x4, x5, iI (c : Int)) = if isRp (cb A i) then some (.inl (s, iI ((i + 1 : Nat) : Int), x4, iI ((cb A i - 48 : Nat) : Int), iI ((c + 1 : Nat) : Int))) else mX5_play_77 n s (B + 46) (B + 1) q (iI ((i + 1 : Nat) : Int)) x4 x5 (iI (c : Int)) (iI (cb A i : Nat)) := by
    simp only [bdP, mX5_play_L19, hS.1.tsize, Option.bind_some, gI_ok w0 (show 6 < 9 by omega) w6, x_byteAt hS.1 hS.2.2 (show i ≤ 1000000 by omega), pt1, mX5_play_212, nm]
    rw [if_neg (by rw [iL, iI_le (by omega) (by omega)]; omega), if_neg (by rw [iI_le (by omega) (by omega)]; omega), if_neg (by rw [iL, iI_le (by omega) (by omega)]; omega)]
    by_cases m1 : cb A i < 50
    · rw [if_pos (by rw [iL, iI_lt (by omega) (by omega)]; omega), if_neg (by omega)]
    · rw [if_neg (by rw [iL, iI_lt (by omega) (by omega)]; omega)]
      by_cases m2 : 57 < cb A i
      · rw [if_pos (by rw [iL, iI_lt (by omega) (by omega)]; omega), if_neg (by omega)]
      · rw [if_neg (by rw [iL, iI_lt (by omega) (by omega)]; omega), if_pos (by omega), iL, iI_sub, show ((cb A i : Nat) : Int) - 48 = ((cb A i - 48 : Nat) : Int) by omega]
  obtain ⟨fl, hfl⟩ : ∃ f', n - c = f' + 1 := ⟨n - c - 1, by omega⟩
  rw [hfl, show n - (c + 1) = fl by omega]
  simp only [loopM, body, H]
theorem p_digit (h0 : PL0 B q wa s0 A) (h : PL B q p b s0 u ea eb s) (hu : u.1 < 60) (hc : c ≤ 900000) (hi : i < tn A) (hn : 2000000 ≤ n) (x4 x5 : Int32) (hb : isRp (cb A i)) : loopM (bdP n B q) (n - c) (s, iI (i : Int), x4, x5, iI (c : Int)) = loopM (bdP n B q) (n - (c + 1)) (s, iI ((i + 1 : Nat) : Int), x4, iI ((cb A i - 48 : Nat) : Int), iI ((c + 1 : Nat) : Int)) := by
  refine p_head h0 h hu hc hi hn _ _ ?_
  rw [if_pos hb]
theorem p_blank (h0 : PL0 B q wa s0 A) (h : PL B q p b s0 u ea eb s) (hu : u.1 < 60) (hc : c ≤ 900000) (hi : i < tn A) (hn : 2000000 ≤ n) (x4 x5 : Int32) (hb : cb A i = 32) : loopM (bdP n B q) (n - c) (s, iI (i : Int), x4, x5, iI (c : Int)) = loopM (bdP n B q) (n - (c + 1)) (s, iI ((i + 1 : Nat) : Int), x4, x5, iI ((c + 1 : Nat) : Int)) := by
  refine p_head h0 h hu hc hi hn _ _ ?_
  rw [if_neg (by omega)]
  simp only [mX5_play_77, mX5_play_212, hb, pt1]
  rw [if_neg (by decide), if_neg (by decide), if_pos (by decide)]
theorem p_open (h0 : PL0 B q wa s0 A) (h : PL B q p b s0 u ea eb s) (hu : u.1 < 60) (hc : c ≤ 900000) (hi : i < tn A) (hn : 2000000 ≤ n) (ho : o < 3) (hb : cb A i = 40) : ∃ s', loopM (bdP n B q) (n - c) (s, iI (i : Int), iI (o : Int), iI (t : Int), iI (c : Int)) = loopM (bdP n B q) (n - (c + 1)) (s', iI ((i + 1 : Nat) : Int), iI ((o + 1 : Nat) : Int), (1 : Int32), iI ((c + 1 : Nat) : Int)) ∧ PL B q p b s0 u (updZ ea o (i + 1 : Nat)) (updZ eb o ((t : Int) - 1)) s' := by
  have hS := h.st h0
  have hq := h0.2.1
  obtain ⟨hP, hW, ⟨lc, el, l1, l2, l3, l4⟩, h8, h9⟩ := id h
  have s46 : s.2.1 (B + 46) = some (5, 6) := hS.1.sh 46 (by omega)
  have s48 : s.2.1 (B + 48) = some (11, 3) := hS.1.sh 48 (by omega)
  have s49 : s.2.1 (B + 49) = some (11, 3) := hS.1.sh 49 (by omega)
  have w1 : sV 11 s (B + 48) (iI (o : Int)) (.int (iI ((i + 1 : Nat) : Int))) = some (setA s (B + 48) (updZ ea o (i + 1 : Nat))) := by
    rw [sV_ok s48 h8 (by omega) (by omega) (by omega), show ((o : Int)).toNat = o by omega]
  generalize hS1 : setA s (B + 48) (updZ ea o (i + 1 : Nat)) = S1 at w1
  have t46 : S1.2.1 (B + 46) = some (5, 6) := by rw [← hS1]; exact s46
  have t49 : S1.2.1 (B + 49) = some (11, 3) := by rw [← hS1]; exact s49
  have f5 : S1.2.2 (B + 46) 5 = .ref (B + 49) := by rw [← hS1, setA_ne _ _ (by omega)]; exact hS.1.pt 22 rfl
  have m9 : S1.2.2 (B + 49) = iz eb := by rw [← hS1, setA_ne _ _ (by omega)]; exact h9
  have w2 : sV 11 S1 (B + 49) (iI (o : Int)) (.int (iI ((t : Int) - 1))) = some (setA S1 (B + 49) (updZ eb o ((t : Int) - 1))) := by
    rw [sV_ok t49 m9 (by omega) (by omega) (by omega), show ((o : Int)).toNat = o by omega]
  refine ⟨setA S1 (B + 49) (updZ eb o ((t : Int) - 1)), ?_, ?_⟩
  · refine p_head h0 h hu hc hi hn _ _ ?_
    rw [if_neg (by omega)]
    have it : iI (t : Int) - (1 : Int32) = iI ((t : Int) - 1) := by rw [iI_1, iI_sub]
    simp only [mX5_play_77, mX5_play_112, mX5_play_212, hb, gR_ok s46 (show 4 < 6 by omega) (hS.1.pt 21 rfl), Option.bind_some, w1, gR_ok t46 (show 5 < 6 by omega) f5, it, w2, pt1]
    rw [if_pos (by decide), if_neg (by rw [iL, iI_le (by omega) (by omega)]; omega)]
  · refine ⟨by rw [← hS1]; exact (hP.ar (Or.inr (Or.inl rfl)) _).ar (Or.inr (Or.inr rfl)) _, hW.same (by rw [← hS1]; rfl) (fun j hj => by rw [setA_ne _ _ (by omega), ← hS1, setA_ne _ _ (by omega)]), ⟨lc, el, by rw [setA_ne _ _ (by omega), ← hS1, setA_ne _ _ (by omega)]; exact l1, l2, by rw [setA_ne _ _ (by omega), ← hS1, setA_ne _ _ (by omega)]; exact l3, l4⟩, by rw [setA_ne _ _ (by omega), ← hS1, setA_self], setA_self _ _ _⟩
theorem p_again (h0 : PL0 B q wa s0 A) (h : PL B q p b s0 u ea eb s) (hu : u.1 < 60) (hc : c ≤ 900000) (hi : i < tn A) (hn : 2000000 ≤ n) (ho : o < 3) (hb : cb A i = 41) {r k : Nat} (hr : eb o = (r : Int) + 1) (hr2 : r ≤ 10) (hk : ea o = (k : Int)) (x5 : Int32) : ∃ s', loopM (bdP n B q) (n - c) (s, iI (i : Int), iI ((o + 1 : Nat) : Int), x5, iI (c : Int)) = loopM (bdP n B q) (n - (c + 1)) (s', iI (k : Int), iI ((o + 1 : Nat) : Int), x5, iI ((c + 1 : Nat) : Int)) ∧ PL B q p b s0 u ea (updZ eb o (r : Int)) s' := by
  have hS := h.st h0
  obtain ⟨hP, hW, ⟨lc, el, l1, l2, l3, l4⟩, h8, h9⟩ := id h
  have s46 : s.2.1 (B + 46) = some (5, 6) := hS.1.sh 46 (by omega)
  have s48 : s.2.1 (B + 48) = some (11, 3) := hS.1.sh 48 (by omega)
  have s49 : s.2.1 (B + 49) = some (11, 3) := hS.1.sh 49 (by omega)
  have eo : iI ((o + 1 : Nat) : Int) - (1 : Int32) = iI (o : Int) := by rw [iI_1, iI_sub, show ((o + 1 : Nat) : Int) - 1 = (o : Int) by omega]
  have rd : toI (aV 11 s (B + 49) (iI (o : Int))) = some (iI ((r : Int) + 1)) := by
    rw [aI_ok s49 h9 (by omega) (by omega) (by omega), show ((o : Int)).toNat = o by omega, hr]
  have w1 : sV 11 s (B + 49) (iI (o : Int)) (.int (iI (r : Int))) = some (setA s (B + 49) (updZ eb o (r : Int))) := by
    rw [sV_ok s49 h9 (by omega) (by omega) (by omega), show ((o : Int)).toNat = o by omega]
  have er : iI ((r : Int) + 1) - (1 : Int32) = iI (r : Int) := by rw [iI_1, iI_sub, show (r : Int) + 1 - 1 = (r : Int) by omega]
  generalize hS1 : setA s (B + 49) (updZ eb o (r : Int)) = S1 at w1
  have t46 : S1.2.1 (B + 46) = some (5, 6) := by rw [← hS1]; exact s46
  have t48 : S1.2.1 (B + 48) = some (11, 3) := by rw [← hS1]; exact s48
  have f4 : S1.2.2 (B + 46) 4 = .ref (B + 48) := by rw [← hS1, setA_ne _ _ (by omega)]; exact hS.1.pt 21 rfl
  have m8 : S1.2.2 (B + 48) = iz ea := by rw [← hS1, setA_ne _ _ (by omega)]; exact h8
  have rd2 : toI (aV 11 S1 (B + 48) (iI (o : Int))) = some (iI (k : Int)) := by
    rw [aI_ok t48 m8 (by omega) (by omega) (by omega), show ((o : Int)).toNat = o by omega, hk]
  refine ⟨S1, ?_, ?_⟩
  · refine p_head h0 h hu hc hi hn _ _ ?_
    rw [if_neg (by omega)]
    simp only [mX5_play_77, mX5_play_212, hb, eo, gR_ok s46 (show 5 < 6 by omega) (hS.1.pt 22 rfl), Option.bind_some, rd, er, w1, gR_ok t46 (show 4 < 6 by omega) f4, rd2, pt1]
    rw [if_neg (by decide), if_pos (by decide), if_neg (by rw [iI_0, iI_le (by omega) (by omega)]; omega), if_neg (by rw [iI_0, iI_le (by omega) (by omega)]; omega)]
  · rw [← hS1]
    exact ⟨hP.ar (Or.inr (Or.inr rfl)) _, hW.same rfl (fun j hj => by have := h0.2.1; rw [setA_ne _ _ (by omega)]), ⟨lc, el, by rw [setA_ne _ _ (by omega)]; exact l1, l2, by rw [setA_ne _ _ (by omega)]; exact l3, l4⟩, by rw [setA_ne _ _ (by omega)]; exact h8, setA_self _ _ _⟩
theorem p_close (h0 : PL0 B q wa s0 A) (h : PL B q p b s0 u ea eb s) (hu : u.1 < 60) (hc : c ≤ 900000) (hi : i < tn A) (hn : 2000000 ≤ n) (ho : o < 3) (hb : cb A i = 41) (hr : eb o = 0) (x5 : Int32) : loopM (bdP n B q) (n - c) (s, iI (i : Int), iI ((o + 1 : Nat) : Int), x5, iI (c : Int)) = loopM (bdP n B q) (n - (c + 1)) (s, iI ((i + 1 : Nat) : Int), iI (o : Int), x5, iI ((c + 1 : Nat) : Int)) := by
  have hS := h.st h0
  obtain ⟨hP, hW, ⟨lc, el, l1, l2, l3, l4⟩, h8, h9⟩ := id h
  have s46 : s.2.1 (B + 46) = some (5, 6) := hS.1.sh 46 (by omega)
  have s49 : s.2.1 (B + 49) = some (11, 3) := hS.1.sh 49 (by omega)
  have eo : iI ((o + 1 : Nat) : Int) - (1 : Int32) = iI (o : Int) := by rw [iI_1, iI_sub, show ((o + 1 : Nat) : Int) - 1 = (o : Int) by omega]
  have eo' : iI ((o + 1 : Nat) : Int) + (-1 : Int32) = iI (o : Int) := by rw [iI_m1, iI_add, show ((o + 1 : Nat) : Int) + -1 = (o : Int) by omega]
  have rd : toI (aV 11 s (B + 49) (iI (o : Int))) = some (iI 0) := by
    rw [aI_ok s49 h9 (by omega) (by omega) (by omega), show ((o : Int)).toNat = o by omega, hr]
  refine p_head h0 h hu hc hi hn _ _ ?_
  rw [if_neg (by omega)]
  simp only [mX5_play_77, mX5_play_168, mX5_play_212, hb, eo, gR_ok s46 (show 5 < 6 by omega) (hS.1.pt 22 rfl), Option.bind_some, rd, pt1, eo']
  have ng : ¬ iI ((o + 1 : Nat) : Int) ≤ 0 := by rw [iI_0, iI_le (by omega) (by omega)]; omega
  rw [if_neg (by decide), if_pos (by decide), if_neg ng, if_pos (by decide), if_neg ng]
theorem p_move (h0 : PL0 B q wa s0 A) (h : PL B q p b s0 u ea eb s) (hw : PWf A u) (hu : u.1 < 60) (hc : c ≤ 900000) (hi : i < tn A) (hn : 2000000 ≤ n) (ht : 1 ≤ t ∧ t ≤ 9) (hb : isMv (cb A i)) (x4 : Int32) : ∃ s', loopM (bdP n B q) (n - c) (s, iI (i : Int), x4, iI (t : Int), iI (c : Int)) = loopM (bdP n B q) (n - (c + 1)) (s', iI ((i + 1 : Nat) : Int), x4, (1 : Int32), iI ((c + 1 : Nat) : Int)) ∧ PL B q p b s0 (pfo A (List.replicate t (cb A i)) u) ea eb s' := by
  have hS := h.st h0
  have hA := hS.2.2
  have cr := cb_R hA i
  have key := loop_inv (body := mX5_play_L189 n (B + 46) q (iI (t : Int)) (iI (cb A i : Nat))) (fun x => ∃ (k : Nat) (s1 : Sg), x = (s1, iI (k : Int)) ∧ k ≤ t ∧ PL B q p b s0 (pfo A (List.replicate k (cb A i)) u) ea eb s1) (fun x => t - x.2.toNatClampNeg)
    (fun s1 => PL B q p b s0 (pfo A (List.replicate t (cb A i)) u) ea eb s1) ?_ n (s, (0 : Int32)) ⟨0, s, rfl, by omega, h⟩ (by show t - (0 : Int32).toNatClampNeg < n; omega)
  · obtain ⟨s', k1, k2⟩ := key
    refine ⟨s', ?_, k2⟩
    refine p_head h0 h hu hc hi hn _ _ ?_
    rw [if_neg (by omega)]
    simp only [mX5_play_77, mX5_play_212, k1, Option.bind_some, pt1]
    rw [if_neg (by rw [iL, iI_eq (by omega) (by omega)]; omega), if_neg (by rw [iL, iI_eq (by omega) (by omega)]; omega), if_neg (by rw [iL, iI_eq (by omega) (by omega)]; omega)]
  · rintro _ ⟨k, s1, rfl, hk, h1⟩
    by_cases ck : k = t
    · subst ck
      refine Or.inr ⟨s1, ?_, h1⟩
      simp only [mX5_play_L189]
      rw [if_pos (by rw [iI_le (by omega) (by omega)]; omega)]
    · obtain ⟨s2, q1, q2⟩ := x_pmove (n := n) h0 h1 (pfo_wf hA _ _ hw) hb
      refine Or.inl ⟨(s2, iI ((k + 1 : Nat) : Int)), ?_, ⟨k + 1, s2, rfl, by omega, ?_⟩, ?_⟩
      · simp only [mX5_play_L189, q1, Option.bind_some, pt1]
        rw [if_neg (by rw [iI_le (by omega) (by omega)]; omega)]
      · rw [List.replicate_succ', pfo_app]
        exact q2
      · show t - (iI ((k + 1 : Nat) : Int)).toNatClampNeg < t - (iI (k : Int)).toNatClampNeg
        rw [iI_clamp (by omega) (by omega), iI_clamp (by omega) (by omega)]
        omega
end X85
