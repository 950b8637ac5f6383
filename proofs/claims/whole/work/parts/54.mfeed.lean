/-! ===== the reference: shown, trail, feed ===== -/
section X54
variable {M n : Nat} {σ : Sg} {A : AS} {f : Nat → Int} {e : Nat → Int → Int}
theorem m_cover (hS : Msh M σ) (h : MH A f e) (hA : Wf A) {tick : Int} (ht : 0 ≤ tick ∧ tick ≤ 5000) (hn : 100000 ≤ n) : loopM (mX10_shownIn_L5 n M (iI tick)) n (MW M σ f e, iI (-1), iI 0) = some (MW M σ f e, iI (cov A tick (sn A))) := by
  have W := mAll hS
  have h8 := hA.2.2.2.2.1
  have e0 : (MW M σ f e, iI (-1), iI 0) = (fun t : Nat => (MW M σ f e, iI (cov A tick t), iI (t : Int))) 0 := rfl
  rw [e0]
  refine loop_run (fun t : Nat => (MW M σ f e, iI (cov A tick t), iI (t : Int))) (sn A) 0 (fun t _ h1 => ?_) ?_ n (by omega)
  · have q1 := h.2.2.2.2.2 t (by omega)
    have q2 := hA.2.2.2.2.2 t (by omega)
    have q3 := cov_R hA tick t (by omega)
    simp (disch := omega) only [mX10_shownIn_L5, W, Option.bind_some, h.2.2.2.2.1, iI_le, q1, iI_lt, mX10_shownIn_40, iL, iI_add]
    rw [if_neg (by omega), jmax_iI (RI.sm (by omega) (by omega)) (RI.sm (by omega) (by omega))]
    conv => rhs; unfold cov
    by_cases c : tick < sw A t
    · rw [if_pos c, if_neg (by omega)]; rfl
    · rw [if_neg c]
      by_cases c2 : cov A tick t < sw A t
      · rw [if_pos (by omega), show max (cov A tick t) (sw A t : Int) = sw A t by omega]; rfl
      · rw [if_neg (by omega), show max (cov A tick t) (sw A t : Int) = cov A tick t by omega]; rfl
  · simp (disch := omega) only [Nat.zero_add, mX10_shownIn_L5, W, Option.bind_some, h.2.2.2.2.1, iI_le]
    rw [if_pos (by omega)]
/-- what the class keeps (walk, tick or -1) and what the reference keeps (walk, tick or 0) -/
def refT (p : Int × Int) : Int := if p.1 = -1 then 0 else p.2
theorem stp_inv (hA : Wf A) (tick cv : Int) (c : Nat) {w i : Nat} {p : Int × Int} (hp : (p.1 = -1 ∧ p.2 = -1) ∨ (0 ≤ p.1 ∧ 0 ≤ p.2)) : ((stp A tick cv c w i p).1 = -1 ∧ (stp A tick cv c w i p).2 = -1) ∨ (0 ≤ (stp A tick cv c w i p).1 ∧ 0 ≤ (stp A tick cv c w i p).2) := by
  unfold stp
  split
  · refine Or.inr ⟨Int.natCast_nonneg _, ?_⟩
    exact Int.add_nonneg (Int.natCast_nonneg _) (Int.mul_nonneg (Int.natCast_nonneg _) (Int.natCast_nonneg _))
  · exact hp
theorem shM_inv (hA : Wf A) (tick cv : Int) (c w : Nat) {p : Int × Int} (hp : (p.1 = -1 ∧ p.2 = -1) ∨ (0 ≤ p.1 ∧ 0 ≤ p.2)) : ∀ i, ((shM A tick cv c w p i).1 = -1 ∧ (shM A tick cv c w p i).2 = -1) ∨ (0 ≤ (shM A tick cv c w p i).1 ∧ 0 ≤ (shM A tick cv c w p i).2)
  | 0 => hp
  | i + 1 => stp_inv hA tick cv c (shM_inv hA tick cv c w hp i)
theorem shP_inv (hA : Wf A) (tick cv : Int) (c : Nat) : ∀ w, ((shP A tick cv c w).1 = -1 ∧ (shP A tick cv c w).2 = -1) ∨ (0 ≤ (shP A tick cv c w).1 ∧ 0 ≤ (shP A tick cv c w).2)
  | 0 => Or.inl ⟨rfl, rfl⟩
  | w + 1 => shM_inv hA tick cv c w (shP_inv hA tick cv c w) _
theorem m_showWalk (hS : Msh M σ) (h : MH A f e) (hA : Wf A) {w c : Nat} (hw : w < wn A) (hc : c < 256) {tick cv : Int} {p : Int × Int} (ht : 0 ≤ tick ∧ tick ≤ 5000) (hcv : -1 ≤ cv ∧ cv ≤ 5000) (hp : (p.1 = -1 ∧ p.2 = -1) ∨ (0 ≤ p.1 ∧ 0 ≤ p.2)) (hp2 : -1 ≤ p.1 ∧ p.1 ≤ 8 ∧ -1 ≤ p.2 ∧ p.2 ≤ 100000) (hn : 100000 ≤ n) :
    loopM (mX10_shownIn_L68 n M (iI c) (iI tick) (iI cv) (iI w)) n (MW M σ f e, iI p.1, iI (refT p), iI 0) = some (MW M σ f e, iI (shM A tick cv c w p (wlast (wk A w) + 1)).1, iI (refT (shM A tick cv c w p (wlast (wk A w) + 1)))) := by
  have W := mAll hS
  have h8 := hA.2.2.1.1
  have hW := hA.2.2.1.2 w hw
  have h60 := hW.2.2.2.1
  have e0 : (MW M σ f e, iI p.1, iI (refT p), iI 0) = (fun t : Nat => (MW M σ f e, iI (shM A tick cv c w p t).1, iI (refT (shM A tick cv c w p t)), iI (t : Int))) 0 := rfl
  rw [e0]
  refine loop_run (fun t : Nat => (MW M σ f e, iI (shM A tick cv c w p t).1, iI (refT (shM A tick cv c w p t)), iI (t : Int))) (wlast (wk A w) + 1) 0 (fun t _ h1 => ?_) ?_ n (by omega)
  · have k1 := cell256 hA hW (show t ≤ wlast (wk A w) by omega)
    have p9 := pace9 hW (i := t) (by omega)
    have td := hW.2.2.2.2.1
    have hd := hA.1
    have I := shM_inv hA tick cv c w hp t
    have R := shM_R hA tick cv c hw hp2 t (by omega)
    obtain ⟨a1, a2, a3, a4, a5⟩ := h.2.2.1.2 w hw
    have ht1 : t ≤ wlast (wk A w) := by omega
    show _ = some (Sum.inl (MW M σ f e, iI (stp A tick cv c w t (shM A tick cv c w p t)).1, iI (refT (stp A tick cv c w t (shM A tick cv c w p t))), iI ((t + 1 : Nat) : Int)))
    generalize hP : shM A tick cv c w p t = P at I R ⊢
    have rT : 0 ≤ refT P ∧ refT P ≤ 100000 := by unfold refT; split <;> omega
    have no : ∀ z : Int32, mX10_shownIn_139 n (MW M σ f e) M (iI c) (iI tick) (iI cv) (iI P.1) (iI (refT P)) (iI w) (iI t) z = some (Sum.inl (MW M σ f e, iI P.1, iI (refT P), iI ((t + 1 : Nat) : Int))) := fun z => by
      unfold mX10_shownIn_139 mX10_shownIn_140 mX10_shownIn_168
      rw [if_pos rfl, iI_1, iI_add]; rfl
    simp (disch := omega) only [mX10_shownIn_L68, W, Option.bind_some, a1, a2, a4, iI_lt, iI_mul, iI_add, nm, m_cellAt hS h hA hw ht1, iI_eq, m_hasPrint hS h hA hw ht1, iL, bI_0, iI_le, no]
    rw [if_neg (by omega)]
    unfold stp
    by_cases c1 : wcell (wk A w) t = c
    · rw [if_pos (by omega)]
      by_cases c2 : prt (wk A w) t
      · rw [if_neg (fun q => q c2)]
        by_cases c3 : tick < (wtold (wk A w) : Int) + wpace (wk A w) * t
        · rw [if_pos c3, if_neg (fun q => by have := q.2.2.2.1; omega)]
        · rw [if_neg c3]
          by_cases c4 : (wtold (wk A w) : Int) + wpace (wk A w) * t ≤ cv
          · rw [if_pos c4, if_neg (fun q => by have := q.2.2.1; omega)]
          · rw [if_neg c4]
            simp (disch := omega) only [mX10_shownIn_140, mX10_shownIn_168, mX10_shownIn_160, iL, iI_neg, iI_eq, iI_le, iI_add]
            rw [if_neg (by omega)]
            by_cases c5 : P.1 = -1
            · rw [if_pos c5, if_pos ⟨c2, c1, by omega, by omega, by omega⟩]
              simp only [refT]
              rw [if_neg (by omega)]; rfl
            · rw [if_neg c5]
              have e1 : refT P = P.2 := by unfold refT; rw [if_neg c5]
              rw [e1]
              by_cases c6 : (wtold (wk A w) : Int) + wpace (wk A w) * t ≤ P.2
              · rw [if_pos c6, if_neg (fun q => by have := q.2.2.2.2; omega), e1]; rfl
              · rw [if_neg c6, if_pos ⟨c2, c1, by omega, by omega, by omega⟩]
                simp only [refT]
                rw [if_neg (by omega)]; rfl
      · rw [if_pos c2, if_neg (fun q => c2 q.1)]
    · rw [if_neg (by omega), if_neg (fun q => c1 q.2.1)]
  · simp (disch := omega) only [Nat.zero_add, mX10_shownIn_L68, W, Option.bind_some, (h.2.2.1.2 w hw).1, iI_lt]
    rw [if_pos (by omega)]
theorem m_shownIn (hS : Msh M σ) (h : MH A f e) (hA : Wf A) {c : Nat} (hc : c < 256) {tick : Int} (ht : 0 ≤ tick ∧ tick ≤ 5000) (hn : 100000 ≤ n) : mX10_shownIn n (MW M σ f e) M (iI c) (iI tick) = some (iI (shP A tick (cov A tick (sn A)) c (wn A)).1, MW M σ f e) := by
  have W := mAll hS
  have h8 := hA.2.2.1.1
  have hcv := cov_R hA tick (sn A) (Nat.le_refl _)
  generalize hcv' : cov A tick (sn A) = cv at hcv
  have L : loopM (mX10_shownIn_L56 n M (iI c) (iI tick) (iI cv)) n (MW M σ f e, iI (-1), iI 0, iI 0) = some (MW M σ f e, iI (shP A tick cv c (wn A)).1) := by
    have e0 : (MW M σ f e, iI (-1), iI 0, iI 0) = (fun t : Nat => (MW M σ f e, iI (shP A tick cv c t).1, iI (refT (shP A tick cv c t)), iI (t : Int))) 0 := rfl
    rw [e0]
    refine loop_run (fun t : Nat => (MW M σ f e, iI (shP A tick cv c t).1, iI (refT (shP A tick cv c t)), iI (t : Int))) (wn A) 0 (fun t _ h1 => ?_) ?_ n (by omega)
    · have R := shP_R hA tick cv c t (by omega)
      simp (disch := omega) only [mX10_shownIn_L56, W, Option.bind_some, h.2.2.1.1, iI_le, iL, m_showWalk hS h hA (show t < wn A by omega) hc ht hcv (shP_inv hA tick cv c t) R hn, iI_add]
      rw [if_neg (by omega)]; rfl
    · simp (disch := omega) only [Nat.zero_add, mX10_shownIn_L56, W, Option.bind_some, h.2.2.1.1, iI_le]
      rw [if_pos (by omega)]
  unfold mX10_shownIn
  simp only [W, Option.bind_some, iL, iI_neg, m_cover hS h hA ht hn, hcv', L]
theorem m_shown (hS : Msh M σ) (h : MH A f e) (hA : Wf A) {x y tick : Int} (hx : RI x) (hy : RI y) (ht : RI tick) (hn : 100000 ≤ n) : mX10_shown n (MW M σ f e) M (iI x) (iI y) (iI tick) = some (iI (if cAt A x y ≠ -1 ∧ 0 ≤ tick ∧ tick ≤ 5000 then (shP A tick (cov A tick (sn A)) (cAt A x y).toNat (wn A)).1 else -1), MW M σ f e) := by
  have W := mAll hS
  have h1 := hA.1
  unfold mX10_shown
  simp only [W, Option.bind_some, m_isCell hS h hA hx hy, iL, iI_neg, bI_0, iI_mul, iI_add]
  unfold RI at ht
  simp (disch := omega) only [m_in, Option.bind_some, bI_0]
  unfold cAt
  by_cases c1 : 0 ≤ x ∧ x < wide A ∧ 0 ≤ y ∧ y < deep A
  · rw [if_neg (fun q => q c1), if_pos c1]
    by_cases c2 : 0 ≤ tick ∧ tick ≤ 5000
    · rw [if_neg (fun q => q c2), if_pos ⟨by omega, c2⟩]
      generalize hc : (16 * y + x).toNat = c
      have hc2 : 16 * y + x = (c : Int) := by omega
      rw [hc2, m_shownIn hS h hA (show c < 256 by omega) c2 hn]; rfl
    · rw [if_pos c2, if_neg (fun q => c2 q.2)]
  · rw [if_pos c1, if_neg c1, if_neg (fun q => q.1 rfl)]
theorem m_trail (hS : Msh M σ) (h : MH A f e) (hA : Wf A) {w tick : Int} (hw : RI w) (ht : RI tick) (hn : 100000 ≤ n) : mX10_trail n (MW M σ f e) M (iI w) (iI tick) = some (iI (if isW A w ∧ 0 ≤ tick ∧ tick ≤ 5000 then (trl A tick w 256 : Int) else -1), MW M σ f e) := by
  have W := mAll hS
  have h8 := hA.2.2.1.1
  unfold mX10_trail
  simp only [W, Option.bind_some, m_isWalk hS h hA hw, iL, iI_neg, bI_0]
  unfold RI at ht hw
  simp (disch := omega) only [m_in, Option.bind_some, bI_0]
  by_cases c1 : 0 ≤ w ∧ w < wn A
  · rw [if_neg (fun q => q c1)]
    by_cases c2 : 0 ≤ tick ∧ tick ≤ 5000
    · rw [if_neg (fun q => q c2), if_pos ⟨c1, c2⟩]
      have L : loopM (mX10_trail_L26 n M (iI w) (iI tick)) n (MW M σ f e, iI 0, iI 0) = some (MW M σ f e, iI (trl A tick w 256 : Nat)) := by
        have e0 : (MW M σ f e, iI 0, iI 0) = (fun t : Nat => (MW M σ f e, iI (trl A tick w t : Nat), iI (t : Int))) 0 := rfl
        rw [e0]
        refine loop_run (fun t : Nat => (MW M σ f e, iI (trl A tick w t : Nat), iI (t : Int))) 256 0 (fun t _ h1 => ?_) ?_ n (by omega)
        · have R := shP_R hA tick (cov A tick (sn A)) t (wn A) (Nat.le_refl _)
          have tl := trl_le A tick w t
          simp (disch := omega) only [mX10_trail_L26, iL, iI_le, m_shownIn hS h hA (show t < 256 by omega) c2 hn, Option.bind_some, iI_eq, mX10_trail_51, nm, iI_add]
          rw [if_neg (by omega)]
          conv => rhs; unfold trl
          by_cases c3 : (shP A tick (cov A tick (sn A)) t (wn A)).1 = w
          · rw [if_pos c3, if_pos c3]; rfl
          · rw [if_neg c3, if_neg c3, Int.add_zero]; rfl
        · simp (disch := omega) only [Nat.zero_add, mX10_trail_L26, iL, iI_le]
          rw [if_pos (by omega)]
      simp only [L, Option.bind_some]
    · rw [if_pos c2, if_neg (fun q => c2 q.2)]
  · rw [if_pos c1, if_neg (fun q => c1 q.1)]
/-- the k-th of the twenty bytes -/
def by20 (a b c d x : Int32) (k : Nat) : Nat := byW (if k < 4 then a else if k < 8 then b else if k < 12 then c else if k < 16 then d else x) (k % 4)
theorem m_byteOf {s : Sg} (a b c d x : Int32) {k : Nat} (hk : k < 20) : mX10_byteOf n s a b c d x (iI (k : Int)) = some (iI (by20 a b c d x k), s) := by
  have key : ∀ y : Int32, mX10_byteOf_45 n s y (iI (k : Int)) = some (iI (byW y (k % 4)), s) := by
    intro y
    have e1 : iI 24 - iI 8 * (iI (k : Int) - iI (k : Int) / iI 4 * iI 4) = iI ((24 - 8 * (k % 4) : Nat) : Int) := by
      have r := pk_rem (a := k) (d := 4) (by omega) (by omega) (by omega)
      have r1 : nI k = iI (k : Int) := iI_nat k
      have r2 : nI 4 = iI 4 := rfl
      have r3 : nI (k % 4) = iI ((k % 4 : Nat) : Int) := iI_nat _
      rw [r1, r2, r3] at r
      rw [r, iI_mul, iI_sub, show (24 : Int) - 8 * ((k % 4 : Nat) : Int) = ((24 - 8 * (k % 4) : Nat) : Int) by omega]
    unfold mX10_byteOf_45
    simp only [iL, e1, byteS y (show k % 4 < 4 by omega)]
  unfold mX10_byteOf by20
  simp (disch := omega) only [iL, iI_le, key]
  by_cases c1 : k < 4
  · rw [if_neg (by omega), if_pos c1]
  · rw [if_pos (by omega), if_neg c1]
    by_cases c2 : k < 8
    · rw [if_neg (by omega), if_pos c2]
    · rw [if_pos (by omega), if_neg c2]
      by_cases c3 : k < 12
      · rw [if_neg (by omega), if_pos c3]
      · rw [if_pos (by omega), if_neg c3]
        by_cases c4 : k < 16
        · rw [if_neg (by omega), if_pos c4]
        · rw [if_pos (by omega), if_neg c4]
/-- the tape after the first k of the twenty -/
def fdK (a b c d x : Int32) (p : Nat × (Nat → Nat)) : Nat → Nat × (Nat → Nat)
  | 0 => p
  | k + 1 => psh (by20 a b c d x k) (fdK a b c d x p k)
theorem fdK_20 (a b c d x : Int32) (p : Nat × (Nat → Nat)) : fdK a b c d x p 20 = fd5 a b c d x p := rfl
theorem fdK_ge (a b c d x : Int32) (p : Nat × (Nat → Nat)) {j : Nat} : ∀ k, j ≤ k → (fdK a b c d x p j).1 ≤ (fdK a b c d x p k).1
  | 0, h => by rw [show j = 0 by omega]; exact Nat.le_refl _
  | k + 1, h => by
    by_cases c1 : j = k + 1
    · rw [c1]; exact Nat.le_refl _
    · exact Nat.le_trans (fdK_ge a b c d x p k (by omega)) (psh_ge _ _)
theorem fdK_le (a b c d x : Int32) (p : Nat × (Nat → Nat)) : ∀ k, (fdK a b c d x p k).1 ≤ p.1 + k
  | 0 => Nat.le_refl _
  | k + 1 => by
    have := fdK_le a b c d x p k
    show (psh _ _).1 ≤ _
    unfold psh
    split
    · omega
    · show (fdK a b c d x p k).1 + 1 ≤ _
      omega
theorem m_feed (hS : Msh M σ) (h : MH A f e) (hA : Wf A) (a b c d x : Int32) (hn : 100000 ≤ n) : ∃ r A' f' e', mX10_feed n (MW M σ f e) M a b c d x = some (iI r, MW M σ f' e') ∧ MH A' f' e' ∧ Feed A a b c d x A' r := by
  have W := mAll hS
  have h160 := hA.2.1.1
  have L1 : loopM (mX10_feed_L6 n a b c d x) n (MW M σ f e, iI 0, iI 0) = some (MW M σ f e, iI (((fdK a b c d x (tn A, tb A) 20).1 : Int) - tn A)) := by
    have e0 : (MW M σ f e, iI 0, iI 0) = (fun t : Nat => (MW M σ f e, iI (((fdK a b c d x (tn A, tb A) t).1 : Int) - tn A), iI (t : Int))) 0 := by
      show _ = (MW M σ f e, iI ((tn A : Int) - tn A), _)
      rw [Int.sub_self]; rfl
    rw [e0]
    refine loop_run (fun t : Nat => (MW M σ f e, iI (((fdK a b c d x (tn A, tb A) t).1 : Int) - tn A), iI (t : Int))) 20 0 (fun t _ h1 => ?_) ?_ n (by omega)
    · have b1 : by20 a b c d x t < 256 := byW_lt _ _
      simp (disch := omega) only [mX10_feed_L6, iL, iI_le, m_byteOf a b c d x (show t < 20 by omega), Option.bind_some, iI_eq, mX10_feed_35, nm, iI_add]
      rw [if_neg (by omega)]
      show _ = some (Sum.inl (MW M σ f e, iI (((psh (by20 a b c d x t) (fdK a b c d x (tn A, tb A) t)).1 : Int) - tn A), iI ((t + 1 : Nat) : Int)))
      unfold psh
      by_cases c1 : by20 a b c d x t = 0
      · rw [if_pos (by omega), if_pos c1, Int.add_zero]; rfl
      · rw [if_neg (by omega), if_neg c1]
        show _ = some (Sum.inl (MW M σ f e, iI (((fdK a b c d x (tn A, tb A) t).1 + 1 : Nat) - (tn A : Int)), iI ((t + 1 : Nat) : Int)))
        rw [show (((fdK a b c d x (tn A, tb A) t).1 + 1 : Nat) - (tn A : Int)) = ((fdK a b c d x (tn A, tb A) t).1 : Int) - tn A + 1 by omega]; rfl
    · simp (disch := omega) only [Nat.zero_add, mX10_feed_L6, iL, iI_le]
      rw [if_pos (by omega)]
  have g20 := fdK_ge a b c d x (tn A, tb A) (j := 0) 20 (by omega)
  have l20 := fdK_le a b c d x (tn A, tb A) 20
  have g20' : tn A ≤ (fdK a b c d x (tn A, tb A) 20).1 := g20
  have l20' : (fdK a b c d x (tn A, tb A) 20).1 ≤ tn A + 20 := l20
  unfold mX10_feed
  simp (disch := omega) only [W, Option.bind_some, iL, iI_neg, L1, h.2.1.1, iI_add, iI_le]
  by_cases c1 : (fdK a b c d x (tn A, tb A) 20).1 ≤ 160
  · rw [if_pos (by omega)]
    have key := loop_inv (body := mX10_feed_L62 n M a b c d x) (fun s => ∃ (t : Nat) (f' : Nat → Int) (e' : Nat → Int → Int), t ≤ 20 ∧ s = (MW M σ f' e', iI (t : Int)) ∧ MH (setTn A (fdK a b c d x (tn A, tb A) t).1 (fdK a b c d x (tn A, tb A) t).2) f' e') (fun s => 20 - s.2.toNatClampNeg)
      (fun s => ∃ (f' : Nat → Int) (e' : Nat → Int → Int), s = MW M σ f' e' ∧ MH (setTn A (fdK a b c d x (tn A, tb A) 20).1 (fdK a b c d x (tn A, tb A) 20).2) f' e') ?_ n (MW M σ f e, iI 0) ⟨0, f, e, by omega, rfl, h⟩ (by omega)
    · obtain ⟨r, hr, f', e', rfl, hM⟩ := key
      simp only [hr, Option.bind_some, W, hM.2.1.1]
      exact ⟨_, _, f', e', rfl, hM, Or.inl ⟨c1, rfl, rfl⟩⟩
    · rintro _ ⟨t, f', e', t1, rfl, hM⟩
      by_cases ct : t = 20
      · refine Or.inr ⟨_, ?_, f', e', rfl, by rw [← ct]; exact hM⟩
        simp (disch := omega) only [mX10_feed_L62, iL, iI_le]
        rw [if_pos (by omega)]
      · have z0 : (iI (t : Int)).toNatClampNeg = t := by rw [iI_clamp (by omega) (by omega)]; omega
        have z1 : (iI ((t : Int) + 1)).toNatClampNeg = t + 1 := by rw [iI_clamp (by omega) (by omega)]; omega
        have hm : 20 - (iI ((t : Int) + 1)).toNatClampNeg < 20 - (iI (t : Int)).toNatClampNeg := by omega
        have b1 : by20 a b c d x t < 256 := byW_lt _ _
        have g1 := fdK_ge a b c d x (tn A, tb A) (j := t + 1) 20 (by omega)
        have e5 : f' 5 = (fdK a b c d x (tn A, tb A) t).1 := hM.2.1.1
        have g2 : (fdK a b c d x (tn A, tb A) (t + 1)).1 = (psh (by20 a b c d x t) (fdK a b c d x (tn A, tb A) t)).1 := rfl
        simp (disch := omega) only [mX10_feed_L62, iL, iI_le, m_byteOf a b c d x (show t < 20 by omega), Option.bind_some, iI_eq, mX10_feed_109, iI_add, W, e5]
        rw [if_neg (by omega)]
        by_cases c2 : by20 a b c d x t = 0
        · rw [if_pos (by omega)]
          refine Or.inl ⟨_, rfl, ⟨t + 1, f', e', by omega, rfl, ?_⟩, hm⟩
          have e1 : fdK a b c d x (tn A, tb A) (t + 1) = fdK a b c d x (tn A, tb A) t := by show psh _ _ = _; unfold psh; rw [if_pos c2]
          rw [e1]; exact hM
        · rw [if_neg (by omega)]
          have e1 : fdK a b c d x (tn A, tb A) (t + 1) = ((fdK a b c d x (tn A, tb A) t).1 + 1, fun j => if j = (fdK a b c d x (tn A, tb A) t).1 then by20 a b c d x t else (fdK a b c d x (tn A, tb A) t).2 j) := by show psh _ _ = _; unfold psh; rw [if_neg c2]
          have e2 : (fdK a b c d x (tn A, tb A) (t + 1)).1 = (fdK a b c d x (tn A, tb A) t).1 + 1 := by rw [e1]
          simp (disch := omega) only [W, Option.bind_some, e5, iI_add]
          refine Or.inl ⟨_, rfl, ⟨t + 1, updZ f' 5 ((fdK a b c d x (tn A, tb A) t).1 + 1), ups e' 1 (fdK a b c d x (tn A, tb A) t).1 (by20 a b c d x t), by omega, rfl, ?_⟩, hm⟩
          obtain ⟨q1, q2, q3, q4, q5⟩ := hM
          rw [e1]
          refine ⟨q1, ⟨?_, fun k hk => ?_⟩, q3, q4, q5⟩
          · show ((fdK a b c d x (tn A, tb A) t).1 : Int) + 1 = (((fdK a b c d x (tn A, tb A) t).1 + 1 : Nat) : Int)
            omega
          · have hk : k < (fdK a b c d x (tn A, tb A) t).1 + 1 := hk
            show upj (e' 1) (fdK a b c d x (tn A, tb A) t).1 (by20 a b c d x t) k = ((if k = (fdK a b c d x (tn A, tb A) t).1 then by20 a b c d x t else (fdK a b c d x (tn A, tb A) t).2 k : Nat) : Int)
            unfold upj
            by_cases ck : k = (fdK a b c d x (tn A, tb A) t).1
            · rw [if_pos (by omega), if_pos ck]
            · rw [if_neg (by omega), if_neg ck]; exact q2.2 k (show k < (fdK a b c d x (tn A, tb A) t).1 by omega)
  · rw [if_neg (by omega)]
    exact ⟨-1, A, f, e, rfl, h, Or.inr ⟨by rw [← fdK_20]; omega, rfl, rfl⟩⟩
end X54
