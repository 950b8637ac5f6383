/-! ===== what the class plays is what the tape spells ===== -/
/-- how often a byte at a depth may be read -/
def wt9 (dp : Nat) : Nat := 9 ^ (3 - dp)
theorem wt9_s {dp : Nat} (h : dp < 3) : wt9 dp = 9 * wt9 (dp + 1) ∧ 1 ≤ wt9 (dp + 1) := by
  rcases (show dp = 0 ∨ dp = 1 ∨ dp = 2 by omega) with rfl | rfl | rfl <;> decide
theorem wt9_1 {dp : Nat} (h : dp ≤ 3) : 1 ≤ wt9 dp ∧ wt9 dp ≤ 729 := by
  rcases (show dp = 0 ∨ dp = 1 ∨ dp = 2 ∨ dp = 3 by omega) with rfl | rfl | rfl | rfl <;> decide
section X86
variable {B n q p b : Nat} {wa : Nat → Nat} {s0 : Sg} {A : AS} {tot : Pu}
/-- the playing ends with the whole walk -/
def Gd (B q p b : Nat) (s0 : Sg) (tot : Pu) (m : Option Sg) : Prop := ∃ e ea eb, m = some e ∧ PL B q p b s0 tot ea eb e
/-- from place i to place j, at a depth, the class plays L -/
def RunP (B n q p b : Nat) (s0 : Sg) (A : AS) (tot : Pu) (dp i t : Nat) (L : List Nat) (j : Nat) : Prop :=
  ∀ (u : Pu) (ea eb : Nat → Int) (s : Sg) (c : Nat) (rest : List Nat), PL B q p b s0 u ea eb s → PWf A u → c + wt9 dp * (j - i) ≤ 900000 → pfo A rest (pfo A L u) = tot →
    (∀ (s' : Sg) (ea' eb' : Nat → Int) (c' : Nat), PL B q p b s0 (pfo A L u) ea' eb' s' → (∀ x, x < dp → ea' x = ea x ∧ eb' x = eb x) → c ≤ c' → c' ≤ c + wt9 dp * (j - i) → Gd B q p b s0 tot (loopM (bdP n B q) (n - c') (s', iI (j : Int), iI (dp : Int), (1 : Int32), iI (c' : Int)))) →
    Gd B q p b s0 tot (loopM (bdP n B q) (n - c) (s, iI (i : Int), iI (dp : Int), iI (t : Int), iI (c : Int)))
theorem Gd.full (h0 : PL0 B q wa s0 A) {u : Pu} {ea eb : Nat → Int} {s : Sg} {i c : Nat} (h : PL B q p b s0 u ea eb s) (h60 : u.1 = 60) {L : List Nat} (ht : pfo A L u = tot) (hc : c ≤ 900000) (hi : i < tn A) (hn : 2000000 ≤ n) (x4 x5 : Int32) : Gd B q p b s0 tot (loopM (bdP n B q) (n - c) (s, iI (i : Int), x4, x5, iI (c : Int))) := by
  rw [pfo_60 h60] at ht
  subst ht
  exact ⟨s, ea, eb, p_full h0 h h60 hc hi hn x4 x5, h⟩
/-- the passes through a group that are left -/
theorem run_group (h0 : PL0 B q wa s0 A) (hn : 2000000 ≤ n) {dp i j : Nat} {L : List Nat} (hd : dp < 3) (hR : RunP B n q p b s0 A tot (dp + 1) i 1 L j) (hj : j < tn A) (hij : i ≤ j) (hb : cb A j = 41) : ∀ (r : Nat) (u : Pu) (ea eb : Nat → Int) (s : Sg) (c : Nat) (rest : List Nat), PL B q p b s0 u ea eb s → PWf A u → r ≤ 9 → ea dp = (i : Int) → eb dp = (r : Int) → c + r * (wt9 (dp + 1) * (j - i) + 1) + 1 ≤ 900000 → pfo A rest (pfo A (List.replicate r L).flatten u) = tot →
    (∀ (s' : Sg) (ea' eb' : Nat → Int) (c' : Nat), PL B q p b s0 (pfo A (List.replicate r L).flatten u) ea' eb' s' → (∀ x, x < dp → ea' x = ea x ∧ eb' x = eb x) → c ≤ c' → c' ≤ c + r * (wt9 (dp + 1) * (j - i) + 1) + 1 → Gd B q p b s0 tot (loopM (bdP n B q) (n - c') (s', iI ((j + 1 : Nat) : Int), iI (dp : Int), (1 : Int32), iI (c' : Int)))) →
    Gd B q p b s0 tot (loopM (bdP n B q) (n - c) (s, iI (j : Int), iI ((dp + 1 : Nat) : Int), (1 : Int32), iI (c : Int))) := by
  have hA := h0.1.2.2
  intro r
  induction r with
  | zero =>
    intro u ea eb s c rest h hu hr he hb0 hc ht k
    have hc' : c ≤ 900000 := by omega
    by_cases c60 : u.1 = 60
    · rw [← pfo_app] at ht
      exact Gd.full h0 h c60 ht hc' hj hn _ _
    · have := hu.1
      rw [p_close h0 h (by omega) hc' hj hn hd hb (by rw [hb0]; rfl)]
      exact k s ea eb (c + 1) h (fun x _ => ⟨rfl, rfl⟩) (by omega) (by omega)
  | succ r ih =>
    intro u ea eb s c rest h hu hr he hb0 hc ht k
    have hc' : c ≤ 900000 := by omega
    have sm : (r + 1) * (wt9 (dp + 1) * (j - i) + 1) = r * (wt9 (dp + 1) * (j - i) + 1) + (wt9 (dp + 1) * (j - i) + 1) := Nat.succ_mul _ _
    have sp : (List.replicate (r + 1) L).flatten = L ++ (List.replicate r L).flatten := by rw [List.replicate_succ]; rfl
    by_cases c60 : u.1 = 60
    · rw [← pfo_app] at ht
      exact Gd.full h0 h c60 ht hc' hj hn _ _
    · have u60 := hu.1
      obtain ⟨s1, e1, h1⟩ := p_again (n := n) (r := r) (k := i) h0 h (by omega) hc' hj hn hd hb (by rw [hb0]; rfl) (by omega) he (1 : Int32)
      rw [e1]
      rw [sp] at ht k
      simp only [pfo_app] at ht k
      refine hR u ea _ s1 (c + 1) ((List.replicate r L).flatten ++ rest) h1 hu (by omega) (by rw [pfo_app]; exact ht) (fun s2 ea2 eb2 c2 h2 a2 g1 g2 => ?_)
      have d := a2 dp (by omega)
      refine ih (pfo A L u) ea2 eb2 s2 c2 rest h2 (pfo_wf hA _ _ hu) (by omega) (by rw [d.1]; exact he) (by rw [d.2]; unfold updZ; rw [if_pos rfl]) (by omega) ht (fun s3 ea3 eb3 c3 h3 a3 g3 g4 => ?_)
      refine k s3 ea3 eb3 c3 h3 (fun x hx => ?_) (by omega) (by omega)
      have a := a2 x (by omega)
      have b := a3 x hx
      refine ⟨b.1.trans a.1, (b.2.trans a.2).trans ?_⟩
      unfold updZ
      rw [if_neg (by omega)]
theorem wmul (w i j : Nat) (h : i + 1 ≤ j) : w * (j - i) = w + w * (j - (i + 1)) := by
  rw [show j - i = (j - (i + 1)) + 1 by omega, Nat.mul_succ]
  omega
theorem run_sec (h0 : PL0 B q wa s0 A) (hn : 2000000 ≤ n) : ∀ (k i dp : Nat) (sm rp : Bool) (t : Nat), i + k = tn A → au A k i dp sm rp = -1 → (rp = false → t = 1) → 1 ≤ t ∧ t ≤ 9 → dp ≤ 3 → ∃ L j, Sec A i t L j ∧ i ≤ j ∧ j ≤ tn A ∧ ((dp = 0 ∧ j = tn A) ∨ (0 < dp ∧ j < tn A ∧ cb A j = 41 ∧ au A (tn A - (j + 1)) (j + 1) (dp - 1) true false = -1)) ∧ RunP B n q p b s0 A tot dp i t L j := by
  have hA := h0.1.2.2
  intro k
  induction k using Nat.strongRecOn with
  | ind k ih =>
    intro i dp sm rp t hk h ht1 ht hdp
    have stopR : t = 1 → RunP B n q p b s0 A tot dp i t [] i := fun e => by
      subst e
      intro u ea eb s c rest h1 hu hc htot kk
      exact kk s ea eb c h1 (fun x _ => ⟨rfl, rfl⟩) (Nat.le_refl _) (by omega)
    cases k with
    | zero =>
      unfold au at h
      by_cases c : dp = 0 ∧ sm = true ∧ rp = false
      · exact ⟨[], i, Sec.stop (Or.inl (by omega)), Nat.le_refl _, by omega, Or.inl ⟨c.1, by omega⟩, stopR (ht1 c.2.2)⟩
      · rw [if_neg c] at h; omega
    | succ k =>
      have hi : i < tn A := by omega
      rw [au_s] at h
      by_cases m1 : isMv (cb A i)
      · rw [if_pos m1] at h
        obtain ⟨L, j, s1, s2, s3, s4, s5⟩ := ih k (by omega) (i + 1) dp true false 1 (by omega) h (fun _ => rfl) (by omega) hdp
        refine ⟨_, j, Sec.mv m1 s1, by omega, s3, s4, ?_⟩
        intro u ea eb s c rest h1 hu hc htot kk
        have wm := wmul (wt9 dp) i j s2
        have w1 := wt9_1 hdp
        have hc' : c ≤ 900000 := by omega
        rw [pfo_app] at htot kk
        by_cases c60 : u.1 = 60
        · rw [← pfo_app, ← pfo_app] at htot
          exact Gd.full h0 h1 c60 htot hc' hi hn _ _
        · have u60 := hu.1
          obtain ⟨s', e1, h2⟩ := p_move (n := n) h0 h1 hu (by omega) hc' hi hn ht m1 (iI (dp : Int))
          rw [e1]
          refine s5 _ ea eb s' (c + 1) rest h2 (pfo_wf hA _ _ hu) (by omega) htot (fun s3 ea3 eb3 c3 h3 a3 g3 g4 => kk s3 ea3 eb3 c3 h3 a3 (by omega) (by omega))
      · rw [if_neg m1] at h
        by_cases m2 : isRp (cb A i) ∧ rp = false
        · rw [if_pos m2] at h
          obtain ⟨L, j, s1, s2, s3, s4, s5⟩ := ih k (by omega) (i + 1) dp sm true (cb A i - 48) (by omega) h (fun x => by cases x) (by omega) hdp
          refine ⟨L, j, Sec.rep m2.1 s1, by omega, s3, s4, ?_⟩
          intro u ea eb s c rest h1 hu hc htot kk
          have wm := wmul (wt9 dp) i j s2
          have w1 := wt9_1 hdp
          have hc' : c ≤ 900000 := by omega
          by_cases c60 : u.1 = 60
          · rw [← pfo_app] at htot
            exact Gd.full h0 h1 c60 htot hc' hi hn _ _
          · have u60 := hu.1
            rw [p_digit h0 h1 (by omega) hc' hi hn _ _ m2.1]
            refine s5 u ea eb s (c + 1) rest h1 hu (by omega) htot (fun s3 ea3 eb3 c3 h3 a3 g3 g4 => kk s3 ea3 eb3 c3 h3 a3 (by omega) (by omega))
        · rw [if_neg m2] at h
          by_cases m3 : cb A i = 40 ∧ dp < 3
          · rw [if_pos m3] at h
            obtain ⟨L, j, s1, s2, s3, s4, s5⟩ := ih k (by omega) (i + 1) (dp + 1) false false 1 (by omega) h (fun _ => rfl) (by omega) (by omega)
            rcases s4 with s4 | ⟨u1, u2, u3, u4⟩
            · omega
            · obtain ⟨L', j', v1, v2, v3, v4, v5⟩ := ih (tn A - (j + 1)) (by omega) (j + 1) dp true false 1 (by omega) u4 (fun _ => rfl) (by omega) hdp
              refine ⟨_, j', Sec.grp m3.1 s1 v1, by omega, v3, v4, ?_⟩
              intro u ea eb s c rest h1 hu hc htot kk
              obtain ⟨w9, w1⟩ := wt9_s m3.2
              have wsum : wt9 dp * (j' - i) = wt9 dp * (j - (i + 1)) + wt9 dp * 2 + wt9 dp * (j' - (j + 1)) := by
                rw [show j' - i = (j - (i + 1)) + 2 + (j' - (j + 1)) by omega, Nat.mul_add, Nat.mul_add]
              have w9x : wt9 dp * (j - (i + 1)) = 9 * (wt9 (dp + 1) * (j - (i + 1))) := by rw [w9, Nat.mul_assoc]
              have tx : (t - 1) * (wt9 (dp + 1) * (j - (i + 1)) + 1) ≤ 8 * (wt9 (dp + 1) * (j - (i + 1)) + 1) := Nat.mul_le_mul_right _ (by omega)
              have hc' : c ≤ 900000 := by omega
              by_cases c60 : u.1 = 60
              · rw [← pfo_app] at htot
                exact Gd.full h0 h1 c60 htot hc' hi hn _ _
              · have u60 := hu.1
                have sp : (List.replicate t L).flatten = L ++ (List.replicate (t - 1) L).flatten := by
                  conv => lhs; rw [show t = (t - 1) + 1 by omega, List.replicate_succ]
                  rfl
                rw [sp] at htot kk
                simp only [pfo_app] at htot kk
                obtain ⟨s', e1, h2⟩ := p_open (n := n) (t := t) h0 h1 (by omega) hc' hi hn m3.2 m3.1
                rw [e1]
                refine s5 u _ _ s' (c + 1) ((List.replicate (t - 1) L).flatten ++ (L' ++ rest)) h2 hu (by omega) (by rw [pfo_app, pfo_app]; exact htot) (fun s2' ea2 eb2 c2 h2' a2 g1 g2 => ?_)
                have d := a2 dp (by omega)
                have da : ea2 dp = ((i + 1 : Nat) : Int) := by rw [d.1]; unfold updZ; rw [if_pos rfl]
                have db : eb2 dp = ((t - 1 : Nat) : Int) := by rw [d.2]; unfold updZ; rw [if_pos rfl]; omega
                refine run_group h0 hn m3.2 s5 u2 s2 u3 (t - 1) (pfo A L u) ea2 eb2 s2' c2 (L' ++ rest) h2' (pfo_wf hA _ _ hu) (by omega) da db (by omega) (by rw [pfo_app]; exact htot) (fun s3 ea3 eb3 c3 h3 a3 g3 g4 => ?_)
                refine v5 _ ea3 eb3 s3 c3 rest h3 (pfo_wf hA _ _ (pfo_wf hA _ _ hu)) (by omega) htot (fun s4 ea4 eb4 c4 h4 a4 g5 g6 => ?_)
                refine kk s4 ea4 eb4 c4 h4 (fun x hx => ?_) (by omega) (by omega)
                have x2 := a2 x (by omega)
                have x3 := a3 x hx
                have x4 := a4 x hx
                refine ⟨(x4.1.trans (x3.1.trans x2.1)).trans ?_, (x4.2.trans (x3.2.trans x2.2)).trans ?_⟩
                · unfold updZ; rw [if_neg (by omega)]
                · unfold updZ; rw [if_neg (by omega)]
          · rw [if_neg m3] at h
            by_cases m4 : cb A i = 41 ∧ 0 < dp ∧ sm = true ∧ rp = false
            · rw [if_pos m4] at h
              obtain ⟨e1, e2, e3, e4⟩ := m4
              subst e3 e4
              refine ⟨[], i, Sec.stop (Or.inr e1), Nat.le_refl _, by omega, Or.inr ⟨e2, hi, e1, ?_⟩, stopR (ht1 rfl)⟩
              rw [show tn A - (i + 1) = k by omega]
              exact h
            · rw [if_neg m4] at h
              by_cases m5 : cb A i = 32
              · rw [if_pos m5] at h
                obtain ⟨L, j, s1, s2, s3, s4, s5⟩ := ih k (by omega) (i + 1) dp sm rp t (by omega) h ht1 ht hdp
                refine ⟨L, j, Sec.blank m5 s1, by omega, s3, s4, ?_⟩
                intro u ea eb s c rest h1 hu hc htot kk
                have wm := wmul (wt9 dp) i j s2
                have w1 := wt9_1 hdp
                have hc' : c ≤ 900000 := by omega
                by_cases c60 : u.1 = 60
                · rw [← pfo_app] at htot
                  exact Gd.full h0 h1 c60 htot hc' hi hn _ _
                · have u60 := hu.1
                  rw [p_blank h0 h1 (by omega) hc' hi hn _ _ m5]
                  refine s5 u ea eb s (c + 1) rest h1 hu (by omega) htot (fun s3 ea3 eb3 c3 h3 a3 g3 g4 => kk s3 ea3 eb3 c3 h3 a3 (by omega) (by omega))
              · rw [if_neg m5] at h; omega
/-- the class plays what the tape spells -/
theorem x_play (h0 : PL0 B q wa s0 A) {u : Pu} {ea eb : Nat → Int} {s : Sg} {L : List Nat} {m : Nat} (hP : PlB B s0 q s) (hW : WlkP s q p b u) (h7 : IsI s (B + 47)) (h8 : s.2.2 (B + 48) = iz ea) (h9 : s.2.2 (B + 49) = iz eb) (hu : PWf A u) (hlc : u.2.2.1 = 0) (hm : s.2.2 (B + 1) 6 = .int (iI (m : Int))) (hmt : m ≤ tn A) (hau : au A (tn A - m) m 0 false false = -1) (hL : Sec A m 1 L (tn A)) (hn : 2000000 ≤ n) : ∃ s' ea' eb', mX5_play n s (B + 46) (B + 1) q = some s' ∧ PL B q p b s0 (pfo A L u) ea' eb' s' := by
  have hA := h0.1.2.2
  have t160 := hA.2.1.1
  obtain ⟨el, h7⟩ := h7
  have hS : St B wa s A := h0.1.pl h0.2.1 h0.2.2.1 h0.2.2.2 hP ⟨el, h7⟩ ⟨ea, h8⟩ ⟨eb, h9⟩
  have s46 : s.2.1 (B + 46) = some (5, 6) := hS.1.sh 46 (by omega)
  have h1 : PL B q p b s0 u ea eb (setF s (B + 46) 3 (.int (iI ((0 : Nat) : Int)))) := by
    have hq := h0.2.1
    refine ⟨hP.f46 _, hW.same rfl (fun j hj => setF_ne _ _ _ (by omega)), ⟨0, el, setF_self _ _ _ _, by omega, by rw [setF_ne _ _ _ (by omega)]; exact h7, fun _ => ⟨hlc.symm, fun k hk => by omega⟩⟩, by rw [setF_ne _ _ _ (by omega)]; exact h8, by rw [setF_ne _ _ _ (by omega)]; exact h9⟩
  obtain ⟨L', j, s1, s2, s3, s4, s5⟩ := run_sec (n := n) (q := q) (p := p) (b := b) (s0 := s0) (tot := pfo A L u) h0 hn (tn A - m) m 0 false false 1 (by omega) hau (fun _ => rfl) (by omega) (by omega)
  have ej : j = tn A := by
    rcases s4 with s4 | s4
    · exact s4.2
    · omega
  subst ej
  obtain ⟨eL, -⟩ := hL.unique s1
  subst eL
  have w0 : wt9 0 = 729 := rfl
  have mm : 729 * (tn A - m) ≤ 729 * 160 := Nat.mul_le_mul_left _ (by omega)
  obtain ⟨e, ea', eb', r1, r2⟩ := s5 u ea eb _ 0 [] h1 hu (by rw [w0]; omega) rfl (fun s' ea' eb' c' h' _ _ g => ⟨s', ea', eb', p_end h0 h' (by rw [w0] at g; omega) hn _ _, h'⟩)
  refine ⟨e, ea', eb', ?_, r2⟩
  have r1' : loopM (mX5_play_L19 n (B + 46) (B + 1) q) n (setF s (B + 46) 3 (.int (iI ((0 : Nat) : Int))), iI (m : Int), (0 : Int32), (1 : Int32), (0 : Int32)) = some e := r1
  have pv : pV 5 s (B + 46) 3 (.int (0 : Int32)) = some (setF s (B + 46) 3 (.int (iI ((0 : Nat) : Int)))) := pV_ok s46 (by omega)
  have t7 : (setF s (B + 46) 3 (.int (iI ((0 : Nat) : Int)))).2.1 (B + 1) = some (7, 7) := hS.1.t
  have g6 : toI (gV 7 (setF s (B + 46) 3 (.int (iI ((0 : Nat) : Int)))) (B + 1) 6) = some (iI (m : Int)) := gI_ok t7 (by omega) (by rw [setF_ne _ _ _ (by omega)]; exact hm)
  unfold mX5_play
  simp only [isO_ok s46, Option.bind_some, pv, g6, r1']
end X86
