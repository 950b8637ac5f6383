/-! ===== the reference reads its tape ===== -/
def rb (A : AS) (i : Nat) : Int := if i < tn A then (tb A i : Int) else -1
section X78
variable {M n : Nat} {σ : Sg} {A : AS} {f : Nat → Int} {e : Nat → Int → Int}
theorem rb_or (hA : Wf A) (i : Nat) : (i < tn A ∧ rb A i = cb A i ∧ 1 ≤ cb A i ∧ cb A i ≤ 255) ∨ (tn A ≤ i ∧ rb A i = -1 ∧ cb A i = 0) := by
  unfold rb cb
  by_cases c : i < tn A
  · have := hA.2.1.2 i c
    rw [if_pos c, if_pos c]
    exact Or.inl ⟨c, rfl, this.1, this.2⟩
  · rw [if_neg c, if_neg c]
    exact Or.inr ⟨by omega, rfl, rfl⟩
theorem updZ_2 (f : Nat → Int) (k : Nat) (a b : Int) : updZ (updZ f k a) k b = updZ f k b := by
  funext j
  unfold updZ
  split <;> rfl
theorem updZ_id {f : Nat → Int} {k : Nat} {a : Int} (h : f k = a) : updZ f k a = f := by
  funext j
  unfold updZ
  split
  · rename_i q; rw [q, h]
  · rfl
theorem updZ_ne (f : Nat → Int) {k j : Nat} (a : Int) (h : j ≠ k) : updZ f k a j = f j := by unfold updZ; rw [if_neg h]
theorem m_here (hS : Msh M σ) (h : MH A f e) (hA : Wf A) {i : Nat} (h6 : f 6 = i) (hi : i ≤ 1000) : mX10_here n (MW M σ f e) M = some (iI (rb A i), MW M σ f e) := by
  have W := mAll hS
  have t160 := hA.2.1.1
  unfold mX10_here rb
  simp (disch := omega) only [W, Option.bind_some, h6, h.2.1.1, iI_le]
  by_cases c : i < tn A
  · rw [if_neg (by omega), if_pos c]
    simp (disch := omega) only [W, Option.bind_some, h.2.1.2 i c]
  · rw [if_pos (by omega), if_neg c]; rfl
theorem m_look1 (hS : Msh M σ) (h : MH A f e) (hA : Wf A) {i : Nat} (h6 : f 6 = i) (hi : i ≤ 200) (hn : 100000 ≤ n) : mX10_look n (MW M σ f e) M = some (iI (rb A (sk A i)), MW M σ (updZ f 6 (sk A i : Nat)) e) := by
  have W := mAll hS
  have t160 := hA.2.1.1
  have key : ∀ k i f fl, tn A < i + k → i ≤ 500 → MH A f e → f 6 = ((i : Nat) : Int) → k < fl → ∃ j : Nat, Blk A i j ∧ loopM (mX10_look_L0 n M) fl (MW M σ f e) = some (MW M σ (updZ f 6 (j : Int)) e) := by
    intro k
    induction k with
    | zero =>
      intro i f fl h1 h2 h3 h4 h5
      obtain ⟨fl, rfl⟩ : ∃ f', fl = f' + 1 := ⟨fl - 1, by omega⟩
      have r := rb_or hA i
      refine ⟨i, Blk.here (by omega), ?_⟩
      simp only [loopM, mX10_look_L0, m_here hS h3 hA h4 (show i ≤ 1000 by omega), Option.bind_some, iL]
      rw [if_neg (by rw [iI_eq (by omega) (by omega)]; omega), updZ_id h4]
    | succ k ih =>
      intro i f fl h1 h2 h3 h4 h5
      obtain ⟨fl, rfl⟩ : ∃ f', fl = f' + 1 := ⟨fl - 1, by omega⟩
      have r := rb_or hA i
      simp only [loopM, mX10_look_L0, m_here hS h3 hA h4 (show i ≤ 1000 by omega), Option.bind_some, iL, W, h4, iI_add]
      by_cases c : rb A i = 32
      · rw [if_pos (by rw [c])]
        obtain ⟨j, j1, j2⟩ := ih (i + 1) (updZ f 6 ((i : Int) + 1)) fl (by omega) (by omega) (h3.sc (Sc.f 6 _ (by omega))) (by rw [updZ_same]; rfl) (by omega)
        refine ⟨j, j1.step (by omega), ?_⟩
        rw [updZ_2] at j2
        exact j2
      · rw [if_neg (by rw [iI_eq (by omega) (by omega)]; exact c)]
        refine ⟨i, Blk.here (by omega), ?_⟩
        simp only [updZ_id h4]
  obtain ⟨j, j1, j2⟩ := key (tn A + 1) i f n (by omega) (by omega) h h6 (by omega)
  have sl : sk A i ≤ 500 := by
    rcases Nat.lt_or_ge (tn A) i with z | z
    · have := (sk_blk (A := A) i).unique (Blk.here (by rw [cb_end (by omega)]; omega))
      omega
    · have := sk_le z
      omega
  rw [j1.sk] at j2
  unfold mX10_look
  simp only [W, Option.bind_some, j2, m_here hS (h.sc (Sc.f 6 _ (by omega))) hA (updZ_same _ _ _) (show sk A i ≤ 1000 by omega)]
theorem m_bad (hS : Msh M σ) {wr z : Int} (h7 : f 7 = wr) (h6 : f 6 = z) (hw : RI wr) : mX10_bad n (MW M σ f e) M = some (MW M σ (updZ f 7 (if wr = -1 then z else wr)) e) := by
  have W := mAll hS
  unfold RI at hw
  unfold mX10_bad mX10_bad_20
  simp (disch := omega) only [W, Option.bind_some, h7, h6, iL, iI_neg, iI_eq]
  by_cases c : wr = -1
  · rw [if_pos c, if_pos c]
  · rw [if_neg c, if_neg c]
theorem m_isStep (hA : Wf A) {s : Sg} (i : Nat) : mX10_isStep n s (iI (rb A i)) = some (bI (isMv (cb A i)), s) := by
  have r := rb_or hA i
  unfold mX10_isStep mX10_isStep_36
  simp (disch := omega) only [iL, iI_eq]
  by_cases c : isMv (cb A i)
  · rw [bI_t c]
    rcases c with c | c | c | c | c | c
    · rw [if_pos (by omega)]
    · rw [if_neg (by omega), if_pos (by omega)]
    · rw [if_neg (by omega), if_neg (by omega), if_pos (by omega)]
    · rw [if_neg (by omega), if_neg (by omega), if_neg (by omega), if_pos (by omega)]
    · rw [if_neg (by omega), if_neg (by omega), if_neg (by omega), if_neg (by omega), if_pos (by omega)]
    · rw [if_neg (by omega), if_neg (by omega), if_neg (by omega), if_neg (by omega), if_neg (by omega), if_pos (by omega)]
  · rw [bI_f c, if_neg (by omega), if_neg (by omega), if_neg (by omega), if_neg (by omega), if_neg (by omega), if_neg (by omega)]
theorem m_isDigit (hA : Wf A) {s : Sg} (i : Nat) : mX10_isDigit n s (iI (rb A i)) = some (bI (isDg (cb A i)), s) := by
  have r := rb_or hA i
  unfold mX10_isDigit
  simp (disch := omega) only [iL, iI_lt]
  by_cases c : isDg (cb A i)
  · rw [bI_t c, if_neg (by omega), if_neg (by omega)]
  · rw [bI_f c]
    by_cases c1 : rb A i < 48
    · rw [if_pos c1]
    · rw [if_neg c1, if_pos (by omega)]
/-- the reference's walk as it goes -/
def PR (f : Nat → Int) (e : Nat → Int → Int) (u : Pu) : Prop := f 11 = u.1 ∧ f 12 = u.2.2.1 ∧ f 13 = (u.2.1 u.1 % 16 : Nat) ∧ f 14 = (u.2.1 u.1 / 16 : Nat) ∧ (∀ k : Nat, k ≤ u.1 → e 2 k = u.2.1 k) ∧ ∀ k : Nat, k < u.2.2.1 → e 3 k = u.2.2.2 k
theorem m_stand (hS : Msh M σ) {l : Nat} {x y : Int} (h11 : f 11 = l) (h13 : f 13 = x) (h14 : f 14 = y) (hl : l < 60) : mX10_step_203 n (MW M σ f e) M = some (MW M σ (updZ f 11 ((l : Int) + 1)) (ups e 2 ((l : Int) + 1) (16 * y + x))) := by
  have W := mAll hS
  have a : updZ f 11 ((l : Int) + 1) 11 = (l : Int) + 1 := updZ_same _ _ _
  have b : updZ f 11 ((l : Int) + 1) 13 = x := by rw [updZ_ne _ _ (by omega)]; exact h13
  have c : updZ f 11 ((l : Int) + 1) 14 = y := by rw [updZ_ne _ _ (by omega)]; exact h14
  unfold mX10_step_203 mX10_stand
  simp (disch := omega) only [W, Option.bind_some, h11, iL, iI_add, a, b, c, iI_mul]
theorem PR.come {u : Pu} (h : PR f e u) {f' : Nat → Int} {e' : Nat → Int → Int} {z lc : Nat} {lf : Nat → Nat} (h11 : f' 11 = (u.1 : Int) + 1) (h12 : f' 12 = lc) (h13 : f' 13 = (z % 16 : Nat)) (h14 : f' 14 = (z / 16 : Nat)) (h2 : e' 2 = upj (e 2) ((u.1 : Int) + 1) z) (h3 : ∀ k : Nat, k < lc → e' 3 k = lf k) : PR f' e' (u.1 + 1, upN u.2.1 (u.1 + 1) z, lc, lf) := by
  refine ⟨h11, h12, ?_, ?_, fun k hk => ?_, h3⟩
  · show f' 13 = (upN u.2.1 (u.1 + 1) z (u.1 + 1) % 16 : Nat)
    rw [upN_self]; exact h13
  · show f' 14 = (upN u.2.1 (u.1 + 1) z (u.1 + 1) / 16 : Nat)
    rw [upN_self]; exact h14
  · show e' 2 k = upN u.2.1 (u.1 + 1) z k
    have hk' : k ≤ u.1 + 1 := hk
    rw [h2]
    unfold upj
    by_cases c : k = u.1 + 1
    · rw [if_pos (by omega), c, upN_self]
    · rw [if_neg (by omega), upN_ne _ _ c]
      exact h.2.2.2.2.1 k (by omega)
theorem ups_ne (e : Nat → Int → Int) {r q : Nat} (z v : Int) (h : q ≠ r) : ups e r z v q = e q := by unfold ups; rw [if_neg h]
theorem ups_same (e : Nat → Int → Int) (r : Nat) (z v : Int) : ups e r z v r = upj (e r) z v := by unfold ups; rw [if_pos rfl]
set_option maxRecDepth 100000 in
theorem div16 {z : Nat} (h : z < 256) : iI (z : Int) / iI 16 = iI ((z / 16 : Nat) : Int) := by
  have key : ∀ z : Nat, z < 256 → iI (z : Int) / iI 16 = iI ((z / 16 : Nat) : Int) := by decide +kernel
  exact key z h
/-- a step that may be barred by the yard's edge -/
theorem m_try (hS : Msh M σ) (h : MH A f e) (hA : Wf A) {u : Pu} (hP : PR f e u) (hu : PWf A u) (hl : u.1 < 60) {a b db : Int} {z : Nat} (ha : -1 ≤ a ∧ a ≤ 16) (hb : ((u.2.1 u.1 / 16 : Nat) : Int) + db = b) (hb2 : -1 ≤ b ∧ b ≤ 16)
    (hz : (0 ≤ a ∧ a ≤ (wide A : Int) - 1 ∧ 0 ≤ b ∧ b ≤ (deep A : Int) - 1) → z ≠ u.2.1 u.1 ∧ a = (z % 16 : Nat) ∧ b = (z / 16 : Nat)) (hz2 : ¬ (0 ≤ a ∧ a ≤ (wide A : Int) - 1 ∧ 0 ≤ b ∧ b ≤ (deep A : Int) - 1) → z = u.2.1 u.1) :
    ∃ f' e', mX10_step_132 n (MW M σ f e) (iI db) (iI ((u.2.1 u.1 / 16 : Nat) : Int)) M (iI a) = some (MW M σ f' e') ∧ MH A f' e' ∧ PR f' e' (if z = u.2.1 u.1 then (u.1 + 1, upN u.2.1 (u.1 + 1) (u.2.1 u.1), u.2.2.1, u.2.2.2) else (u.1 + 1, upN u.2.1 (u.1 + 1) z, u.2.2.1 + 1, upN u.2.2.2 u.2.2.1 (u.2.1 u.1))) ∧ f' 6 = f 6 ∧ f' 7 = f 7 ∧ f' 8 = f 8 := by
  have W := mAll hS
  have wd := hA.1
  obtain ⟨p1, p2, p3, p4, p5, p6⟩ := id hP
  have zi : (16 : Int) * ((u.2.1 u.1 / 16 : Nat) : Int) + ((u.2.1 u.1 % 16 : Nat) : Int) = (u.2.1 u.1 : Int) := by omega
  have stay : ∃ f' e', mX10_step_203 n (MW M σ f e) M = some (MW M σ f' e') ∧ MH A f' e' ∧ PR f' e' (u.1 + 1, upN u.2.1 (u.1 + 1) (u.2.1 u.1), u.2.2.1, u.2.2.2) ∧ f' 6 = f 6 ∧ f' 7 = f 7 ∧ f' 8 = f 8 := by
    refine ⟨_, _, m_stand hS p1 p3 p4 hl, (h.sc (Sc.f 11 _ (by omega))).sc (Sc.e 2 _ _ (by omega)), hP.come (updZ_same _ _ _) ?_ ?_ ?_ ?_ ?_, updZ_ne _ _ (by omega), updZ_ne _ _ (by omega), updZ_ne _ _ (by omega)⟩
    · rw [updZ_ne _ _ (by omega)]; exact p2
    · rw [updZ_ne _ _ (by omega)]; exact p3
    · rw [updZ_ne _ _ (by omega)]; exact p4
    · rw [ups_same, zi]
    · intro k hk; rw [ups_ne _ _ _ (by omega)]; exact p6 k hk
  unfold mX10_step_132
  simp (disch := omega) only [nm, iI_add, hb, W, Option.bind_some, h.1.1, iL, iI_sub, m_in, bI_0]
  by_cases c1 : 0 ≤ a ∧ a ≤ (wide A : Int) - 1
  · rw [if_neg (fun q => q c1)]
    simp (disch := omega) only [W, Option.bind_some, h.1.2.1, iI_sub, m_in, bI_0]
    by_cases c2 : 0 ≤ b ∧ b ≤ (deep A : Int) - 1
    · rw [if_neg (fun q => q c2)]
      obtain ⟨z1, z2, z3⟩ := hz ⟨c1.1, c1.2, c2.1, c2.2⟩
      rw [if_neg z1]
      have l3 : u.2.2.1 < 60 := by have := hu.2.1; omega
      simp (disch := omega) only [W, Option.bind_some, p2, p3, p4, iI_mul, iI_add]
      rw [m_stand (l := u.1) (x := a) (y := b) hS (by rw [updZ_ne _ _ (by omega), updZ_ne _ _ (by omega), updZ_ne _ _ (by omega)]; exact p1) (by rw [updZ_ne _ _ (by omega), updZ_same]) (updZ_same _ _ _) hl]
      refine ⟨_, _, rfl, (((((h.sc (Sc.e 3 _ _ (by omega))).sc (Sc.f 12 _ (by omega))).sc (Sc.f 13 _ (by omega))).sc (Sc.f 14 _ (by omega))).sc (Sc.f 11 _ (by omega))).sc (Sc.e 2 _ _ (by omega)), hP.come (updZ_same _ _ _) ?_ ?_ ?_ ?_ ?_, ?_, ?_, ?_⟩
      · rw [updZ_ne _ _ (by omega), updZ_ne _ _ (by omega), updZ_ne _ _ (by omega), updZ_same]; rfl
      · rw [updZ_ne _ _ (by omega), updZ_ne _ _ (by omega), updZ_same]; exact z2
      · rw [updZ_ne _ _ (by omega), updZ_same]; exact z3
      · rw [ups_same, ups_ne _ _ _ (by omega)]
        rw [show (16 : Int) * b + a = (z : Int) by omega]
      · intro k hk
        rw [ups_ne _ _ _ (by omega), ups_same, zi]
        unfold upj
        by_cases q : k = u.2.2.1
        · rw [if_pos (by omega), q, upN_self]
        · rw [if_neg (by omega), upN_ne _ _ q]; exact p6 k (by omega)
      · rw [updZ_ne _ _ (by omega), updZ_ne _ _ (by omega), updZ_ne _ _ (by omega), updZ_ne _ _ (by omega)]
      · rw [updZ_ne _ _ (by omega), updZ_ne _ _ (by omega), updZ_ne _ _ (by omega), updZ_ne _ _ (by omega)]
      · rw [updZ_ne _ _ (by omega), updZ_ne _ _ (by omega), updZ_ne _ _ (by omega), updZ_ne _ _ (by omega)]
    · rw [if_pos c2, if_pos (hz2 (fun q => c2 q.2.2))]
      exact stay
  · rw [if_pos c1, if_pos (hz2 (fun q => c1 ⟨q.1, q.2.1⟩))]
    exact stay
theorem m_step (hS : Msh M σ) (h : MH A f e) (hA : Wf A) {u : Pu} (hP : PR f e u) (hu : PWf A u) {c : Nat} (hc : isMv c) : ∃ f' e', mX10_step n (MW M σ f e) M (iI (c : Int)) = some (MW M σ f' e') ∧ MH A f' e' ∧ PR f' e' (pst A c u) ∧ f' 6 = f 6 ∧ f' 7 = f 7 ∧ f' 8 = f 8 := by
  have W := mAll hS
  have wd := hA.1
  obtain ⟨p1, p2, p3, p4, p5, p6⟩ := id hP
  obtain ⟨q1, q2, q3, q4⟩ := id hu
  have cur := q3 u.1 (Nat.le_refl _)
  have zi : (16 : Int) * ((u.2.1 u.1 / 16 : Nat) : Int) + ((u.2.1 u.1 % 16 : Nat) : Int) = (u.2.1 u.1 : Int) := by omega
  unfold mX10_step
  simp (disch := omega) only [W, Option.bind_some, p1, iL, iI_eq]
  by_cases c60 : u.1 = 60
  · rw [if_pos (by omega), pst_60 c60]
    exact ⟨f, e, rfl, h, hP, rfl, rfl, rfl⟩
  · rw [if_neg (by omega)]
    have hl : u.1 < 60 := by omega
    have stay : ∃ f' e', mX10_step_203 n (MW M σ f e) M = some (MW M σ f' e') ∧ MH A f' e' ∧ PR f' e' (u.1 + 1, upN u.2.1 (u.1 + 1) (u.2.1 u.1), u.2.2.1, u.2.2.2) ∧ f' 6 = f 6 ∧ f' 7 = f 7 ∧ f' 8 = f 8 := by
      refine ⟨_, _, m_stand hS p1 p3 p4 hl, (h.sc (Sc.f 11 _ (by omega))).sc (Sc.e 2 _ _ (by omega)), hP.come (updZ_same _ _ _) ?_ ?_ ?_ ?_ ?_, updZ_ne _ _ (by omega), updZ_ne _ _ (by omega), updZ_ne _ _ (by omega)⟩
      · rw [updZ_ne _ _ (by omega)]; exact p2
      · rw [updZ_ne _ _ (by omega)]; exact p3
      · rw [updZ_ne _ _ (by omega)]; exact p4
      · rw [ups_same, zi]
      · intro k hk; rw [ups_ne _ _ _ (by omega)]; exact p6 k hk
    unfold pst
    rw [if_neg c60]
    by_cases c98 : c = 98
    · rw [if_pos (by omega), if_pos c98]
      simp (disch := omega) only [p2, iI_le]
      by_cases cl : 0 < u.2.2.1
      · rw [if_neg (by omega), if_pos cl]
        have yv := q4 (u.2.2.1 - 1) (by omega)
        have e3 : e 3 ((u.2.2.1 : Int) - 1) = u.2.2.2 (u.2.2.1 - 1) := by
          have := p6 (u.2.2.1 - 1) (by omega)
          rw [show ((u.2.2.1 - 1 : Nat) : Int) = (u.2.2.1 : Int) - 1 by omega] at this
          exact this
        have n12 : updZ f 12 ((u.2.2.1 : Int) - 1) 12 = (u.2.2.1 : Int) - 1 := updZ_same _ _ _
        have n12' : ∀ v, updZ (updZ f 12 ((u.2.2.1 : Int) - 1)) 14 v 12 = (u.2.2.1 : Int) - 1 := fun v => by rw [updZ_ne _ _ (by omega), updZ_same]
        generalize hzv : u.2.2.2 (u.2.2.1 - 1) = zv at yv e3
        have dv := div16 (z := zv) (by omega)
        simp (disch := omega) only [W, Option.bind_some, p2, iI_sub, n12, e3, dv, n12', iI_mul]
        rw [m_stand (l := u.1) (x := (zv : Int) - ((zv / 16 : Nat) : Int) * 16) (y := ((zv / 16 : Nat) : Int)) hS (by rw [updZ_ne _ _ (by omega), updZ_ne _ _ (by omega), updZ_ne _ _ (by omega)]; exact p1) (updZ_same _ _ _) (by rw [updZ_ne _ _ (by omega), updZ_same]) hl]
        refine ⟨_, _, rfl, ((((h.sc (Sc.f 12 _ (by omega))).sc (Sc.f 14 _ (by omega))).sc (Sc.f 13 _ (by omega))).sc (Sc.f 11 _ (by omega))).sc (Sc.e 2 _ _ (by omega)), hP.come (updZ_same _ _ _) ?_ ?_ ?_ ?_ ?_, ?_, ?_, ?_⟩
        · rw [updZ_ne _ _ (by omega), updZ_ne _ _ (by omega), updZ_ne _ _ (by omega), updZ_same]; omega
        · rw [updZ_ne _ _ (by omega), updZ_same]; omega
        · rw [updZ_ne _ _ (by omega), updZ_ne _ _ (by omega), updZ_same]
        · rw [ups_same]
          rw [show (16 : Int) * ((zv / 16 : Nat) : Int) + ((zv : Int) - ((zv / 16 : Nat) : Int) * 16) = (zv : Int) by omega]
        · intro k hk; rw [ups_ne _ _ _ (by omega)]; exact p6 k (by omega)
        · rw [updZ_ne _ _ (by omega), updZ_ne _ _ (by omega), updZ_ne _ _ (by omega), updZ_ne _ _ (by omega)]
        · rw [updZ_ne _ _ (by omega), updZ_ne _ _ (by omega), updZ_ne _ _ (by omega), updZ_ne _ _ (by omega)]
        · rw [updZ_ne _ _ (by omega), updZ_ne _ _ (by omega), updZ_ne _ _ (by omega), updZ_ne _ _ (by omega)]
      · rw [if_pos (by omega), if_neg cl]
        unfold mX10_step_68
        simp (disch := omega) only [iL, iI_eq]
        rw [if_pos (by omega)]
        exact stay
    · rw [if_neg (by omega), if_neg c98]
      unfold mX10_step_68 mX10_step_105
      simp (disch := omega) only [iL, iI_eq, W, Option.bind_some, p3, p4, nm, iI_add, iI_neg]
      rw [if_neg (by omega)]
      by_cases c122 : c = 122
      · rw [if_pos (by omega)]
        have en : nxt A c (u.2.1 u.1) = u.2.1 u.1 := by
          unfold nxt
          rw [if_neg (by omega), if_neg (by omega), if_neg (by omega), if_neg (by omega)]
        rw [if_pos en]
        exact stay
      · rw [if_neg (by omega)]
        rcases hc with hc | hc | hc | hc | hc | hc
        · rw [if_neg (by omega), if_neg (by omega), if_neg (by omega), if_pos (by omega)]
          exact m_try hS h hA hP hu hl (by omega) rfl (by omega) (fun q => by unfold nxt; rw [if_pos (by omega)]; omega) (fun q => by unfold nxt; rw [if_neg (by omega), if_neg (by omega), if_neg (by omega), if_neg (by omega)])
        · rw [if_pos (by omega), if_neg (by omega), if_neg (by omega)]
          exact m_try hS h hA hP hu hl (by omega) rfl (by omega) (fun q => by unfold nxt; rw [if_neg (by omega), if_neg (by omega), if_neg (by omega), if_pos (by omega)]; omega) (fun q => by unfold nxt; rw [if_neg (by omega), if_neg (by omega), if_neg (by omega), if_neg (by omega)])
        · rw [if_neg (by omega), if_neg (by omega), if_pos (by omega)]
          exact m_try hS h hA hP hu hl (by omega) rfl (by omega) (fun q => by unfold nxt; rw [if_neg (by omega), if_pos (by omega)]; omega) (fun q => by unfold nxt; rw [if_neg (by omega), if_neg (by omega), if_neg (by omega), if_neg (by omega)])
        · rw [if_neg (by omega), if_pos (by omega), if_neg (by omega), if_neg (by omega)]
          exact m_try hS h hA hP hu hl (by omega) rfl (by omega) (fun q => by unfold nxt; rw [if_neg (by omega), if_neg (by omega), if_pos (by omega)]; omega) (fun q => by unfold nxt; rw [if_neg (by omega), if_neg (by omega), if_neg (by omega), if_neg (by omega)])
        · exact absurd hc c122
        · exact absurd hc c98
end X78
