/-! ===== the reference: small reads and writes ===== -/
theorem FcM.congr {A A' : AS} {q : Fc} {a b c d g k : Int} (h : FcM A q a b c d g k) (h1 : wn A ≤ wn A') (h2 : ∀ w, w < wn A → ∀ z, mad (wk A' w) z = mad (wk A w) z) : FcM A' q a b c d g k := by
  obtain ⟨e1, w, w1, w2, w3, w4, w5, e2⟩ := h
  refine ⟨e1, w, by omega, w2, w3, w4, w5, ?_⟩
  rcases e2 with ⟨k1, ⟨v, v1, v2, v3, v4, v5, v6, v7⟩, k2⟩ | e2 | e2 | e2 | ⟨k1, ⟨v, v1, v2, v3, v4⟩, k2⟩
  · exact Or.inl ⟨k1, ⟨v, by omega, v2, v3, v4, v5, v6, by rw [h2 v v1, h2 w w1]; exact v7⟩, k2⟩
  · exact Or.inr (Or.inl e2)
  · exact Or.inr (Or.inr (Or.inl e2))
  · exact Or.inr (Or.inr (Or.inr (Or.inl e2)))
  · exact Or.inr (Or.inr (Or.inr (Or.inr ⟨k1, ⟨v, by omega, v2, v3, v4⟩, k2⟩)))
section X52
variable {M n : Nat} {σ : Sg} {A : AS} {f : Nat → Int} {e : Nat → Int → Int}
theorem m_prints (hS : Msh M σ) (h : MH A f e) (hA : Wf A) {x y : Int} (hx : RI x) (hy : RI y) (hn : 100000 ≤ n) : mX10_prints n (MW M σ f e) M (iI x) (iI y) = some (iI (if cAt A x y = -1 then -1 else prs A (cAt A x y)), MW M σ f e) := by
  have W := mAll hS
  have h1 := hA.1
  have h8 := hA.2.2.1.1
  unfold mX10_prints
  simp only [W, Option.bind_some, m_isCell hS h hA hx hy, iI_0, bI_0]
  unfold cAt
  by_cases c1 : 0 ≤ x ∧ x < wide A ∧ 0 ≤ y ∧ y < deep A
  · rw [if_neg (fun q => q c1), if_pos c1, if_neg (by omega)]
    generalize hc : (16 * y + x).toNat = c
    have hc2 : 16 * y + x = (c : Int) := by omega
    have L : loopM (mX10_prints_L16 n M (iI x) (iI y)) n (MW M σ f e, iI 0, iI 0) = some (MW M σ f e, iI (prs A c)) := by
      have e0 : (MW M σ f e, iI 0, iI 0) = (fun t : Nat => (MW M σ f e, iI (bsm (fun k => decide (lIn (wk A k) (c : Int) ≠ -1)) t : Nat), iI (t : Int))) 0 := rfl
      rw [e0]
      refine loop_run (fun t : Nat => (MW M σ f e, iI (bsm (fun k => decide (lIn (wk A k) (c : Int) ≠ -1)) t : Nat), iI (t : Int))) (wn A) 0 (fun t _ ht => ?_) ?_ n (by omega)
      · have l1 := lIn_R (wk A t) c
        have h60 := (hA.2.2.1.2 t (by omega)).2.2.2.1
        simp (disch := omega) only [mX10_prints_L16, W, Option.bind_some, h.2.2.1.1, iI_le, iL, iI_neg, iI_mul, iI_add, hc2, m_latestIn hS h hA (show t < wn A by omega) (show c < 256 by omega) hn, iI_eq, mX10_prints_50, nm]
        rw [if_neg (by omega)]
        by_cases c2 : lIn (wk A t) (c : Int) = -1
        · rw [if_pos c2, or0, bsm_stay (f := fun k => decide (lIn (wk A k) (c : Int) ≠ -1)) (decide_eq_false (fun q => q c2))]; rfl
        · have b1 := bsm_step (f := fun k => decide (lIn (wk A k) (c : Int) ≠ -1)) (t := t) (by omega) (decide_eq_true c2)
          rw [if_neg c2, ← b1]; rfl
      · simp (disch := omega) only [Nat.zero_add, mX10_prints_L16, W, Option.bind_some, h.2.2.1.1, iI_le]
        rw [if_pos (by omega)]; rfl
    simp only [L, Option.bind_some, hc2]
  · rw [if_pos c1, if_neg c1, if_pos rfl]; rfl
theorem m_words (hS : Msh M σ) (h : MH A f e) (hA : Wf A) {who : Int} (hw : RI who) (hn : 100000 ≤ n) : mX10_words n (MW M σ f e) M (iI who) = some (iI (if -1 ≤ who ∧ who ≤ 5 then wrd A who else -1), MW M σ f e) := by
  have W := mAll hS
  have h20 := hA.2.2.2.1.1
  unfold RI at hw
  unfold mX10_words
  simp (disch := omega) only [W, Option.bind_some, iL, iI_neg, m_in, bI_0]
  by_cases c1 : -1 ≤ who ∧ who ≤ 5
  · rw [if_neg (fun q => q c1), if_pos c1]
    have L : loopM (mX10_words_L15 n M (iI who)) n (MW M σ f e, iI 0, iI 0) = some (MW M σ f e, iI (wrd A who)) := by
      have e0 : (MW M σ f e, iI 0, iI 0) = (fun t : Nat => (MW M σ f e, iI (bsm (fun k => decide ((fc A k).1 = who)) t : Nat), iI (t : Int))) 0 := rfl
      rw [e0]
      refine loop_run (fun t : Nat => (MW M σ f e, iI (bsm (fun k => decide ((fc A k).1 = who)) t : Nat), iI (t : Int))) (fn A) 0 (fun t _ ht => ?_) ?_ n (by omega)
      · have q1 := (h.2.2.2.1.2 t (by omega)).1
        have q2 := hA.2.2.2.1.2 t (by omega)
        have q3 : -1 ≤ (fc A t).1 ∧ (fc A t).1 ≤ 5 := ⟨q2.1, q2.2.1⟩
        simp (disch := omega) only [mX10_words_L15, W, Option.bind_some, h.2.2.2.1.1, iI_le, ← q1, iI_eq, mX10_words_41, nm, iL, iI_add]
        rw [if_neg (by omega)]
        by_cases c2 : (fc A t).1 = who
        · have b1 := bsm_step (f := fun k => decide ((fc A k).1 = who)) (t := t) (by omega) (decide_eq_true c2)
          rw [if_pos c2, ← b1]; rfl
        · rw [if_neg c2, or0, bsm_stay (f := fun k => decide ((fc A k).1 = who)) (decide_eq_false c2)]; rfl
      · simp (disch := omega) only [Nat.zero_add, mX10_words_L15, W, Option.bind_some, h.2.2.2.1.1, iI_le]
        rw [if_pos (by omega)]; rfl
    simp only [L, Option.bind_some]
  · rw [if_pos c1, if_neg c1]
theorem m_count (hS : Msh M σ) (h : MH A f e) {z : Int} (hz : RI z) : mX10_count n (MW M σ f e) M (iI z) = some (iI (cnt A z), MW M σ f e) := by
  have W := mAll hS
  unfold RI at hz
  unfold mX10_count
  simp (disch := omega) only [W, Option.bind_some, iL, iI_neg, iI_eq, h.1.1, h.1.2.1, h.1.2.2.1, h.2.1.1, h.2.2.1.1, h.2.2.2.1.1, h.2.2.2.2.1]
  unfold cnt
  by_cases c0 : z = 0
  · simp only [if_pos c0]
  · by_cases c1 : z = 1
    · simp only [if_neg c0, if_pos c1]
    · by_cases c2 : z = 2
      · simp only [if_neg c0, if_neg c1, if_pos c2]
      · by_cases c3 : z = 3
        · simp only [if_neg c0, if_neg c1, if_neg c2, if_pos c3]
        · by_cases c4 : z = 4
          · simp only [if_neg c0, if_neg c1, if_neg c2, if_neg c3, if_pos c4]
          · by_cases c5 : z = 5
            · simp only [if_neg c0, if_neg c1, if_neg c2, if_neg c3, if_neg c4, if_pos c5]
            · by_cases c6 : z = 6
              · simp only [if_neg c0, if_neg c1, if_neg c2, if_neg c3, if_neg c4, if_neg c5, if_pos c6]
              · simp only [if_neg c0, if_neg c1, if_neg c2, if_neg c3, if_neg c4, if_neg c5, if_neg c6]
theorem m_undo (hS : Msh M σ) (h : MH A f e) (hA : Wf A) : ∃ r f' e', mX10_undo n (MW M σ f e) M = some (iI r, MW M σ f' e') ∧ MH (if fn A = 0 then A else setFn A (fn A - 1) (fc A)) f' e' ∧ r = if fn A = 0 then -1 else (fn A : Int) - 1 := by
  have W := mAll hS
  have h20 := hA.2.2.2.1.1
  unfold mX10_undo
  simp (disch := omega) only [W, Option.bind_some, h.2.2.2.1.1, iL, iI_eq, iI_sub]
  by_cases c : fn A = 0
  · rw [if_pos (by omega)]
    simp only [if_pos c]
    exact ⟨-1, f, e, rfl, h, rfl⟩
  · rw [if_neg (by omega)]
    simp only [if_neg c]
    refine ⟨_, updZ f 27 ((fn A : Int) - 1), e, rfl, ?_, by simp [updZ]⟩
    obtain ⟨q1, q2, q3, q4, q5⟩ := h
    refine ⟨q1, q2, q3, ⟨?_, fun k hk => ?_⟩, q5⟩
    · show (fn A : Int) - 1 = ((fn A - 1 : Nat) : Int)
      omega
    · have hk : k < fn A - 1 := hk
      exact (q4.2 k (by omega)).congr (Nat.le_refl _) (fun _ _ _ => rfl)
theorem m_end (hS : Msh M σ) (h : MH A f e) (hA : Wf A) {z : Int} (hz : RI z) : ∃ r A' f' e', mX10_end n (MW M σ f e) M (iI z) = some (iI r, MW M σ f' e') ∧ MH A' f' e' ∧ EndQ A z A' r := by
  have W := mAll hS
  have h160 := hA.2.1.1
  unfold RI at hz
  unfold mX10_end
  simp (disch := omega) only [W, Option.bind_some, h.2.1.1, iL, iI_lt, iI_le]
  by_cases c : 0 ≤ z ∧ z ≤ tn A
  · rw [if_neg (by omega), if_pos (by omega)]
    refine ⟨1, _, updZ f 5 z, e, rfl, ?_, Or.inl ⟨c, rfl, rfl⟩⟩
    obtain ⟨q1, q2, q3, q4, q5⟩ := h
    refine ⟨q1, ⟨?_, fun k hk => q2.2 k ?_⟩, q3, ⟨q4.1, fun k hk => (q4.2 k hk).congr (Nat.le_refl _) (fun _ _ _ => rfl)⟩, q5⟩
    · show z = (z.toNat : Int)
      omega
    · have hk : k < z.toNat := hk
      omega
  · refine ⟨0, A, f, e, ?_, h, Or.inr ⟨c, rfl, rfl⟩⟩
    by_cases c1 : z < 0
    · rw [if_pos c1]
    · rw [if_neg c1, if_neg (by omega)]
theorem m_snow (hS : Msh M σ) (h : MH A f e) (hA : Wf A) {z : Int} (hz : RI z) : ∃ r A' f' e', mX10_snow n (MW M σ f e) M (iI z) = some (iI r, MW M σ f' e') ∧ MH A' f' e' ∧ Snow A z A' r := by
  have W := mAll hS
  have h8 := hA.2.2.2.2.1
  unfold RI at hz
  unfold mX10_snow
  simp (disch := omega) only [W, Option.bind_some, h.2.2.2.2.1, iL, iI_neg, m_in, bI_0, iI_eq]
  by_cases c : 0 ≤ z ∧ z ≤ 5000
  · rw [if_neg (fun q => q c)]
    by_cases c2 : sn A < 8
    · rw [if_neg (by omega)]
      simp (disch := omega) only [W, Option.bind_some, iI_add]
      refine ⟨_, _, updZ f 36 ((sn A : Int) + 1), ups e 17 (sn A) z, ?_, ?_, Or.inl ⟨c, c2, rfl, rfl⟩⟩
      · rfl
      obtain ⟨q1, q2, q3, q4, q5⟩ := h
      refine ⟨q1, q2, q3, ⟨q4.1, fun k hk => (q4.2 k hk).congr (Nat.le_refl _) (fun _ _ _ => rfl)⟩, ⟨rfl, fun k hk => ?_⟩⟩
      have hk : k < sn A + 1 := hk
      show upj (e 17) (sn A) z k = ((if k = sn A then z.toNat else sw A k : Nat) : Int)
      unfold upj
      by_cases ck : k = sn A
      · rw [if_pos (by omega), if_pos ck]; omega
      · rw [if_neg (by omega), if_neg ck]; exact q5.2 k (by omega)
    · rw [if_pos (by omega)]
      exact ⟨-1, A, f, e, rfl, h, Or.inr ⟨fun q => c2 q.2, rfl, rfl⟩⟩
  · rw [if_pos c]
    exact ⟨-1, A, f, e, rfl, h, Or.inr ⟨fun q => c q.1, rfl, rfl⟩⟩
theorem MH.told (h : MH A f e) {g : Nat → Wk} {e' : Nat → Int → Int} (he : ∀ r, r ≠ 8 → e' r = e r) (hg : ∀ k : Nat, k < wn A → ∃ z : Nat, g k = tld (wk A k) z ∧ e' 8 k = z) (h8 : ∀ k : Nat, wn A ≤ k → e' 8 k = e 8 k) : MH (setTo A g) f e' := by
  obtain ⟨q1, q2, q3, q4, q5⟩ := h
  refine ⟨⟨q1.1, q1.2.1, q1.2.2.1, fun k hk => by rw [h8 k hk]; exact q1.2.2.2 k hk⟩, ⟨q2.1, fun k hk => by rw [he 1 (by omega)]; exact q2.2 k hk⟩, ⟨q3.1, fun w hw => ?_⟩, ⟨q4.1, fun k hk => ?_⟩, ⟨q5.1, fun k hk => by rw [he 17 (by omega)]; exact q5.2 k hk⟩⟩
  · have hw : w < wn A := hw
    obtain ⟨z, z1, z2⟩ := hg w hw
    show MHw e' w (g w)
    rw [z1]
    obtain ⟨a1, a2, a3, a4, a5⟩ := q3.2 w hw
    exact ⟨by rw [he 5 (by omega)]; exact a1, by rw [he 6 (by omega)]; exact a2, by rw [he 7 (by omega)]; exact a3, z2, by rw [he 4 (by omega)]; exact a5⟩
  · rw [he 9 (by omega), he 10 (by omega), he 11 (by omega), he 12 (by omega), he 13 (by omega), he 14 (by omega)]
    refine (q4.2 k hk).congr (Nat.le_refl _) (fun w hw c => ?_)
    obtain ⟨z, z1, -⟩ := hg w hw
    show mad (g w) c = mad (wk A w) c
    rw [z1]; rfl
theorem m_start (hS : Msh M σ) (h : MH A f e) (hA : Wf A) {w z : Int} (hw : RI w) (hz : RI z) : ∃ r A' f' e', mX10_start n (MW M σ f e) M (iI w) (iI z) = some (iI r, MW M σ f' e') ∧ MH A' f' e' ∧ Start A w z A' r := by
  have W := mAll hS
  have h8 := hA.2.2.1.1
  have h1 := hA.1
  unfold mX10_start
  simp only [W, Option.bind_some, m_isWalk hS h hA hw, iL, bI_0]
  unfold RI at hz hw
  simp (disch := omega) only [h.1.2.2.1, m_in, Option.bind_some, bI_0]
  by_cases c : 0 ≤ w ∧ w < wn A
  · rw [if_neg (fun q => q c)]
    by_cases c2 : 0 ≤ z ∧ z ≤ (day A : Int)
    · rw [if_neg (fun q => q c2)]
      simp (disch := omega) only [W, Option.bind_some]
      refine ⟨1, _, f, ups e 8 w z, rfl, h.told (fun r hr => by unfold ups; rw [if_neg hr]) (fun k hk => ?_) (fun k hk => by unfold ups upj; rw [if_pos rfl, if_neg (by omega)]), Or.inl ⟨⟨c, c2⟩, rfl, rfl⟩⟩
      show ∃ y : Nat, (if k = w.toNat then tld (wk A w.toNat) z.toNat else wk A k) = tld (wk A k) y ∧ upj (e 8) w z k = y
      unfold upj
      by_cases ck : k = w.toNat
      · exact ⟨z.toNat, by rw [if_pos ck, ck], by rw [if_pos (by omega)]; omega⟩
      · exact ⟨wtold (wk A k), by rw [if_neg ck]; rfl, by rw [if_neg (by omega)]; exact (h.2.2.1.2 k hk).2.2.2.1⟩
    · rw [if_pos c2]
      exact ⟨0, A, f, e, rfl, h, Or.inr ⟨fun q => c2 q.2, rfl, rfl⟩⟩
  · rw [if_pos c]
    exact ⟨0, A, f, e, rfl, h, Or.inr ⟨fun q => c q.1, rfl, rfl⟩⟩
theorem m_areTwo (hS : Msh M σ) (h : MH A f e) (hA : Wf A) {a b : Int} (ha : RI a) (hb : RI b) : mX10_areTwo n (MW M σ f e) M (iI a) (iI b) = some (bI (isW A a ∧ isW A b ∧ a ≠ b), MW M σ f e) := by
  have W := mAll hS
  unfold mX10_areTwo
  simp only [W, Option.bind_some, m_isWalk hS h hA ha, m_isWalk hS h hA hb, iL, bI_0]
  unfold RI at ha hb
  simp (disch := omega) only [iI_eq]
  by_cases c1 : isW A a
  · rw [if_neg (fun q => q c1)]
    by_cases c2 : isW A b
    · rw [if_neg (fun q => q c2)]
      by_cases c3 : a = b
      · rw [if_pos c3, bI_f (fun q => q.2.2 c3)]
      · rw [if_neg c3, bI_t ⟨c1, c2, c3⟩]
    · rw [if_pos c2, bI_f (fun q => c2 q.2.1)]
  · rw [if_pos c1, bI_f (fun q => c1 q.1)]
theorem m_cross (hS : Msh M σ) (h : MH A f e) (hA : Wf A) {a b c : Nat} (ha : a < wn A) (hb : b < wn A) (hc : c < 256) (hn : 100000 ≤ n) : mX10_cross n (MW M σ f e) M (iI a) (iI b) (iI c) = some (bI (both (wk A a) (wk A b) c), MW M σ f e) := by
  have W := mAll hS
  have l1 := lIn_R (wk A a) c
  have l2 := lIn_R (wk A b) c
  have k1 := (hA.2.2.1.2 a ha).2.2.2.1
  have k2 := (hA.2.2.1.2 b hb).2.2.2.1
  unfold mX10_cross
  simp (disch := omega) only [W, Option.bind_some, m_latestIn hS h hA ha hc hn, m_latestIn hS h hA hb hc hn, iL, iI_neg, iI_eq]
  rw [lIn_nat _ hc, lIn_nat _ hc]
  by_cases c1 : lat (wcell (wk A a)) c (wlast (wk A a)) = -1
  · rw [if_pos c1, bI_f (fun q => q.1 c1)]
  · rw [if_neg c1]
    by_cases c2 : lat (wcell (wk A b)) c (wlast (wk A b)) = -1
    · rw [if_pos c2, bI_f (fun q => q.2 c2)]
    · rw [if_neg c2, bI_t ⟨c1, c2⟩]
theorem m_crossings (hS : Msh M σ) (h : MH A f e) (hA : Wf A) {a b i : Int} (ha : RI a) (hb : RI b) (hi : RI i) (hn : 100000 ≤ n) : ∃ r, mX10_crossings n (MW M σ f e) M (iI a) (iI b) (iI i) = some (iI r, MW M σ f e) ∧ Two (isW A a ∧ isW A b ∧ a ≠ b) (-1) (Crsg (wk A a.toNat) (wk A b.toNat) i) r := by
  have W := mAll hS
  have h8 := hA.2.2.1.1
  unfold mX10_crossings
  simp only [W, Option.bind_some, m_areTwo hS h hA ha hb, iL, bI_0, iI_neg]
  unfold RI at hi
  by_cases c : isW A a ∧ isW A b ∧ a ≠ b
  · rw [if_neg (fun q => q c)]
    obtain ⟨v, v1, v2, v3⟩ := isW.nat c.1
    obtain ⟨w, w1, w2, w3⟩ := isW.nat c.2.1
    rw [v3, w3]
    have key := loop_inv (body := mX10_crossings_L17 n M (iI a) (iI b) (iI i)) (fun c => ∃ t : Nat, t ≤ 256 ∧ c = (MW M σ f e, iI (crn (wk A v) (wk A w) t : Nat), iI (t : Int)) ∧ (0 ≤ i → (crn (wk A v) (wk A w) t : Int) ≤ i)) (fun c => 256 - c.2.2.toNatClampNeg)
      (fun r => (r = .inl (MW M σ f e, iI (crn (wk A v) (wk A w) 256 : Nat)) ∧ (0 ≤ i → (crn (wk A v) (wk A w) 256 : Int) ≤ i)) ∨ ∃ k : Nat, k < 256 ∧ both (wk A v) (wk A w) k ∧ (crn (wk A v) (wk A w) k : Int) = i ∧ r = .inr (iI k, MW M σ f e)) ?_ n (MW M σ f e, iI 0, iI 0) ⟨0, by omega, rfl, fun q => q⟩ (by omega)
    · obtain ⟨r, hr, hq⟩ := key
      simp only [hr, Option.bind_some]
      rcases hq with ⟨rfl, hq⟩ | ⟨k, k1, k2, k3, rfl⟩
      · have cl := crn_le (wk A v) (wk A w) 256
        by_cases ci : i = -1
        · exact ⟨crn (wk A v) (wk A w) 256, by simp only [ci, if_pos], Or.inr ⟨c, Or.inl ⟨ci, rfl⟩⟩⟩
        · refine ⟨-1, ?_, Or.inr ⟨c, ?_⟩⟩
          · simp (disch := omega) only [iI_eq]
            rw [if_neg ci]
          · by_cases c0 : 0 ≤ i
            · exact Or.inr (Or.inr (Or.inl ⟨c0, hq c0, rfl⟩))
            · exact Or.inr (Or.inr (Or.inr ⟨by omega, rfl⟩))
      · exact ⟨k, rfl, Or.inr ⟨c, Or.inr (Or.inl ⟨by omega, k, k1, k2, k3, rfl⟩)⟩⟩
    · rintro _ ⟨t, t1, rfl, t2⟩
      have cl := crn_le (wk A v) (wk A w) t
      by_cases ct : t = 256
      · refine Or.inr ⟨_, ?_, Or.inl ⟨rfl, by rw [← ct]; exact t2⟩⟩
        simp (disch := omega) only [mX10_crossings_L17, iL, iI_le]
        rw [if_pos (by omega), ct]
      · have z0 : (iI (t : Int)).toNatClampNeg = t := by rw [iI_clamp (by omega) (by omega)]; omega
        have z1 : (iI ((t : Int) + 1)).toNatClampNeg = t + 1 := by rw [iI_clamp (by omega) (by omega)]; omega
        simp (disch := omega) only [mX10_crossings_L17, iL, iI_le, v2, w2, m_cross hS h hA v1 w1 (show t < 256 by omega) hn, Option.bind_some, bI_0, iI_eq, mX10_crossings_48, iI_add]
        rw [if_neg (by omega)]
        by_cases c2 : both (wk A v) (wk A w) t
        · rw [if_neg (fun q => q c2)]
          by_cases c3 : (crn (wk A v) (wk A w) t : Int) = i
          · rw [if_pos c3]
            exact Or.inr ⟨_, rfl, Or.inr ⟨t, by omega, c2, c3, rfl⟩⟩
          · rw [if_neg c3]
            have e1 : crn (wk A v) (wk A w) (t + 1) = crn (wk A v) (wk A w) t + 1 := by show (if both (wk A v) (wk A w) t then _ else _) = _; rw [if_pos c2]
            refine Or.inl ⟨_, rfl, ⟨t + 1, by omega, by rw [e1]; rfl, fun q => ?_⟩, ?_⟩
            · have := t2 q; rw [e1]; omega
            · show 256 - (iI ((t : Int) + 1)).toNatClampNeg < 256 - (iI (t : Int)).toNatClampNeg
              omega
        · rw [if_pos c2]
          have e1 : crn (wk A v) (wk A w) (t + 1) = crn (wk A v) (wk A w) t := by show (if both (wk A v) (wk A w) t then _ else _) = _; rw [if_neg c2]
          refine Or.inl ⟨_, rfl, ⟨t + 1, by omega, by rw [e1]; rfl, by rw [e1]; exact t2⟩, ?_⟩
          show 256 - (iI ((t : Int) + 1)).toNatClampNeg < 256 - (iI (t : Int)).toNatClampNeg
          omega
  · rw [if_pos c]
    exact ⟨-1, rfl, Or.inl ⟨c, rfl⟩⟩
theorem topP_no (A : AS) : ∀ k, topP A (-1) k = (-1, -1)
  | 0 => rfl
  | k + 1 => by
    unfold topP
    rw [if_neg (fun q => q.1 (lIn_m1 _)), topP_no A k]
theorem topP_inv (hA : Wf A) (c : Int) : ∀ k, k ≤ wn A → ((topP A c k).1 = -1 ∧ (topP A c k).2 = -1) ∨ ∃ b : Nat, b < k ∧ (topP A c k).1 = b ∧ (topP A c k).2 = wtold (wk A b) + mad (wk A b) c
  | 0, _ => Or.inl ⟨rfl, rfl⟩
  | k + 1, hk => by
    have ih := topP_inv hA c k (by omega)
    unfold topP
    split
    · exact Or.inr ⟨k, by omega, rfl, rfl⟩
    · rcases ih with ih | ⟨b, b1, b2⟩
      · exact Or.inl ih
      · exact Or.inr ⟨b, by omega, b2⟩
theorem mad_ge {w : Wk} (hw : WWf A w) {c : Int} (h : lIn w c ≠ -1) : 0 ≤ mad w c := by
  have h1 := lIn_R w c
  have h2 := hw.1
  unfold mad
  exact Int.mul_nonneg (by omega) (by omega)
theorem m_top (hS : Msh M σ) (h : MH A f e) (hA : Wf A) {x y : Int} (hx : RI x) (hy : RI y) (hn : 100000 ≤ n) : mX10_top n (MW M σ f e) M (iI x) (iI y) = some (iI (topP A (cAt A x y) (wn A)).1, MW M σ f e) := by
  have W := mAll hS
  have h1 := hA.1
  have h8 := hA.2.2.1.1
  unfold mX10_top
  simp only [W, Option.bind_some, m_isCell hS h hA hx hy, iL, iI_neg, bI_0, nm, iI_mul, iI_add]
  unfold cAt
  by_cases c1 : 0 ≤ x ∧ x < wide A ∧ 0 ≤ y ∧ y < deep A
  · rw [if_neg (fun q => q c1), if_pos c1]
    generalize hc : (16 * y + x).toNat = c
    have hc2 : 16 * y + x = (c : Int) := by omega
    rw [hc2]
    have L : loopM (mX10_top_L24 n M (iI (c : Int))) n (MW M σ f e, iI (-1), iI 0) = some (MW M σ f e, iI (topP A (c : Int) (wn A)).1) := by
      have e0 : (MW M σ f e, iI (-1), iI 0) = (fun t : Nat => (MW M σ f e, iI (topP A (c : Int) t).1, iI (t : Int))) 0 := rfl
      rw [e0]
      refine loop_run (fun t : Nat => (MW M σ f e, iI (topP A (c : Int) t).1, iI (t : Int))) (wn A) 0 (fun t _ ht => ?_) ?_ n (by omega)
      · have l1 := lIn_R (wk A t) c
        have ht2 : t < wn A := by omega
        have hw := hA.2.2.1.2 t ht2
        have h60 := hw.2.2.2.1
        have tt := hw.2.2.2.2.1
        have m1 := mad_R A hw c
        have R := topP_R hA c t (by omega)
        simp (disch := omega) only [mX10_top_L24, W, Option.bind_some, h.2.2.1.1, iI_le, m_latestIn hS h hA ht2 (show c < 256 by omega) hn, iL, iI_neg, iI_eq, m_made hS h hA ht2 (show c < 256 by omega) hn, iI_add, (h.2.2.1.2 t ht2).2.2.2.1, mX10_top_87, mX10_top_83]
        rw [if_neg (by omega)]
        conv => rhs; unfold topP
        by_cases c2 : lIn (wk A t) (c : Int) = -1
        · rw [if_pos c2, if_neg (fun q => q.1 c2)]; rfl
        · rw [if_neg c2]
          have g := mad_ge hw c2
          rcases topP_inv hA c t (by omega) with ⟨i1, i2⟩ | ⟨b, b1, b2, b3⟩
          · rw [if_pos i1, if_pos ⟨c2, by omega⟩]; rfl
          · have hb : b < wn A := by omega
            have mb := mad_R A (hA.2.2.1.2 b hb) c
            have tb' := (hA.2.2.1.2 b hb).2.2.2.2.1
            rw [if_neg (by omega)]
            simp (disch := omega) only [b2, W, Option.bind_some, (h.2.2.1.2 b hb).2.2.2.1, m_made hS h hA hb (show c < 256 by omega) hn, iI_add, iI_le]
            by_cases c3 : (wtold (wk A t) : Int) + mad (wk A t) c ≤ wtold (wk A b) + mad (wk A b) c
            · rw [if_pos c3, if_neg (fun q => by have := q.2; omega), b2]; rfl
            · rw [if_neg c3, if_pos ⟨c2, by omega⟩]; rfl
      · simp (disch := omega) only [Nat.zero_add, mX10_top_L24, W, Option.bind_some, h.2.2.1.1, iI_le]
        rw [if_pos (by omega)]
    simp only [L, Option.bind_some]
  · rw [if_pos c1, if_neg c1, topP_no]
end X52
