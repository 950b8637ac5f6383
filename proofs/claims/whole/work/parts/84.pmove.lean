/-! ===== the class: the player ===== -/
/-- since s0 only the player's cells and the new walk's have changed -/
def PlB (B : Nat) (s0 : Sg) (q : Nat) (s : Sg) : Prop := s.1 = s0.1 ∧ s.2.1 = s0.2.1 ∧ (∀ a, a < q → a ≠ B + 46 → a ≠ B + 47 → a ≠ B + 48 → a ≠ B + 49 → s.2.2 a = s0.2.2 a) ∧ ∀ k, k ≠ 3 → s.2.2 (B + 46) k = s0.2.2 (B + 46) k
section X84
variable {B n q p b : Nat} {wa : Nat → Nat} {s s0 : Sg} {A : AS} {u : Pu} {ea eb : Nat → Int}
theorem PlB.refl (B : Nat) (s0 : Sg) (q : Nat) : PlB B s0 q s0 := ⟨rfl, rfl, fun _ _ _ _ _ _ => rfl, fun _ _ => rfl⟩
theorem PlB.hi {s' : Sg} (h : PlB B s0 q s) (hq : B + 90 ≤ q) (h1 : s'.1 = s.1) (h2 : s'.2.1 = s.2.1) (h3 : ∀ a, a < q → s'.2.2 a = s.2.2 a) : PlB B s0 q s' :=
  ⟨h1.trans h.1, h2.trans h.2.1, fun a a1 a2 a3 a4 a5 => (h3 a a1).trans (h.2.2.1 a a1 a2 a3 a4 a5), fun k hk => by rw [h3 _ (by omega)]; exact h.2.2.2 k hk⟩
theorem PlB.f46 (h : PlB B s0 q s) (v : Value) : PlB B s0 q (setF s (B + 46) 3 v) :=
  ⟨h.1, h.2.1, fun a a1 a2 a3 a4 a5 => by rw [setF_ne _ _ _ a2]; exact h.2.2.1 a a1 a2 a3 a4 a5, fun k hk => by rw [setF_k _ _ _ hk]; exact h.2.2.2 k hk⟩
theorem PlB.ar (h : PlB B s0 q s) {r : Nat} (hr : r = 47 ∨ r = 48 ∨ r = 49) (d : Nat → Int) : PlB B s0 q (setA s (B + r) d) :=
  ⟨h.1, h.2.1, fun a a1 a2 a3 a4 a5 => by rw [setA_ne _ _ (by omega)]; exact h.2.2.1 a a1 a2 a3 a4 a5, fun k hk => by rw [setA_ne _ _ (by omega)]; exact h.2.2.2 k hk⟩
theorem St.pl (h : St B wa s0 A) (hq : B + 90 ≤ q) (hq2 : q ≤ s0.1) (hw : ∀ w, w < wn A → wa w + 4 ≤ q) (hP : PlB B s0 q s) (i7 : IsI s (B + 47)) (i8 : IsI s (B + 48)) (i9 : IsI s (B + 49)) : St B wa s A := by
  obtain ⟨hC, ⟨a, b, c, a1, a2, a3, a4, a5, a6, a7, a8, a9⟩, hA⟩ := h
  obtain ⟨p1, p2, p3, p4⟩ := hP
  have h20 := hA.2.2.2.1.1
  obtain ⟨k0, kt, kw, kf, ks⟩ := hC.split
  have at_ : ∀ r, r < 90 → r ≠ 46 → r ≠ 47 → r ≠ 48 → r ≠ 49 → s.2.2 (B + r) = s0.2.2 (B + r) := fun r h1 h2 h3 h4 h5 => p3 _ (by omega) (by omega) (by omega) (by omega) (by omega)
  have kw' : RW B wa (q, s0.2.1, s0.2.2) (wn A) (wk A) := ⟨kw.1, fun i hi => ⟨(kw.2.1 i hi).1, (kw.2.1 i hi).2.1, (kw.2.1 i hi).2.2.1, hw i hi⟩, kw.2.2.1, kw.2.2.2⟩
  have e0 : s.2.2 B = s0.2.2 B := at_ 0 (by omega) (by omega) (by omega) (by omega) (by omega)
  refine ⟨RC.join (k0.same (by rw [p1]; omega) (fun r _ => by rw [p2]) (fun r k hr hs => ?_)) (kt.same (by rw [at_ 1 (by omega) (by omega) (by omega) (by omega) (by omega)]) (at_ 2 (by omega) (by omega) (by omega) (by omega) (by omega))) (RW.same kw' (show q ≤ s.1 by rw [p1]; exact hq2) (fun x _ _ => by rw [p2]) (by rw [e0]) (at_ 3 (by omega) (by omega) (by omega) (by omega) (by omega)) (fun x h1 h2 => p3 x h2 (by omega) (by omega) (by omega) (by omega))) (kf.same (fun r _ => by rw [p2]) h20 (by rw [e0]) (fun r h1 h2 => at_ r (by omega) (by omega) (by omega) (by omega) (by omega))) (ks.same (by rw [e0]) (at_ 5 (by omega) (by omega) (by omega) (by omega) (by omega))), ⟨a.same p2 (at_ _ (by omega) (by omega) (by omega) (by omega) (by omega)) (at_ _ (by omega) (by omega) (by omega) (by omega) (by omega)), fun k hk => (b k hk).same p2 (at_ _ (by omega) (by omega) (by omega) (by omega) (by omega)) (at_ _ (by omega) (by omega) (by omega) (by omega) (by omega)), fun k hk => (c k hk).same p2 (at_ _ (by omega) (by omega) (by omega) (by omega) (by omega)) (at_ _ (by omega) (by omega) (by omega) (by omega) (by omega)), a1.same (at_ _ (by omega) (by omega) (by omega) (by omega) (by omega)), a2.same (at_ _ (by omega) (by omega) (by omega) (by omega) (by omega)), a3.same (at_ _ (by omega) (by omega) (by omega) (by omega) (by omega)), a4.same (at_ _ (by omega) (by omega) (by omega) (by omega) (by omega)), a5.same (at_ _ (by omega) (by omega) (by omega) (by omega) (by omega)), a6.same (at_ _ (by omega) (by omega) (by omega) (by omega) (by omega)), i7, i8, i9⟩, hA⟩
  by_cases c46 : r = 46
  · subst c46
    by_cases c3 : k = 3
    · subst c3; cases hs
    · exact p4 k c3
  · by_cases c47 : r = 47
    · subst c47; cases hs
    · by_cases c48 : r = 48
      · subst c48; cases hs
      · by_cases c49 : r = 49
        · subst c49; cases hs
        · rw [at_ r (by omega) c46 c47 c48 c49]
/-- a world of the playing -/
def PL (B q p b : Nat) (s0 : Sg) (u : Pu) (ea eb : Nat → Int) (s : Sg) : Prop :=
  PlB B s0 q s ∧ WlkP s q p b u ∧ (∃ (lc : Nat) (el : Nat → Int), s.2.2 (B + 46) 3 = .int (iI (lc : Int)) ∧ lc ≤ 60 ∧ s.2.2 (B + 47) = iz el ∧ (u.1 < 60 → lc = u.2.2.1 ∧ ∀ k, k < lc → el k = u.2.2.2 k)) ∧ s.2.2 (B + 48) = iz ea ∧ s.2.2 (B + 49) = iz eb
/-- what the playing rests on -/
def PL0 (B q : Nat) (wa : Nat → Nat) (s0 : Sg) (A : AS) : Prop := St B wa s0 A ∧ B + 90 ≤ q ∧ q ≤ s0.1 ∧ ∀ w, w < wn A → wa w + 4 ≤ q
theorem PL.st (h : PL B q p b s0 u ea eb s) (h0 : PL0 B q wa s0 A) : St B wa s A := by
  obtain ⟨lc, el, -, -, l3, -⟩ := h.2.2.1
  exact h0.1.pl h0.2.1 h0.2.2.1 h0.2.2.2 h.1 ⟨el, l3⟩ ⟨ea, h.2.2.2.1⟩ ⟨eb, h.2.2.2.2⟩
theorem and15 {z : Nat} (hs : z < 2147483648) : iI (z : Int) &&& (15 : Int32) = iI ((z % 16 : Nat) : Int) := by
  have h := pk_and (iI (z : Int)) (m := (15 : Int32)) 4 rfl
  have e1 : (iI (z : Int)).toBitVec.toNat = z := un_iI (by omega)
  rw [h, e1]
  exact iI_nat _
theorem shr4 {z : Nat} (hs : z < 2147483648) : iI (z : Int) >>> ((4 : Int32) &&& 31) = iI ((z / 16 : Nat) : Int) := shrN (k := 4) hs (by omega)
theorem x_nextCell (h : RC B wa s A) (hA : Wf A) {z c : Nat} (hz : inY A z) (hc : c ≤ 255) : mX5_nextCell n s (B + 46) (iI (z : Int)) (iI (c : Int)) = some (iI (nxt A c z : Nat), s) := by
  have wd := hA.1
  unfold inY at hz
  have s46 : s.2.1 (B + 46) = some (5, 6) := h.sh 46 (by omega)
  have g0 := gI_ok s46 (show 0 < 6 by omega) h.2.2.2.2.2.1.2.2.2.2.2.2.2.1
  have g1 := gI_ok s46 (show 1 < 6 by omega) h.2.2.2.2.2.1.2.2.2.2.2.2.2.2
  have z2 : z < 256 := by omega
  unfold mX5_nextCell nxt
  simp only [isO_ok s46, Option.bind_some, nm, and15 (show z < 2147483648 by omega), shr4 (show z < 2147483648 by omega)]
  simp (disch := omega) only [iL, iI_eq, iI_le]
  have e62 : c ≠ 110 → c ≠ 115 → c ≠ 119 → mX5_nextCell_62 n s (B + 46) (iI (z : Int)) (iI (c : Int)) (iI ((z % 16 : Nat) : Int)) = some (iI ((if c = 101 ∧ z % 16 + 1 < wide A then z + 1 else z : Nat) : Int), s) := fun _ _ _ => by
    unfold mX5_nextCell_62
    simp (disch := omega) only [iL, iI_eq, g0, Option.bind_some, iI_sub, iI_le, iI_add]
    by_cases c1 : c = 101
    · rw [if_pos (by omega)]
      by_cases c2 : z % 16 + 1 < wide A
      · rw [if_neg (by omega), if_pos ⟨c1, c2⟩]; rfl
      · rw [if_pos (by omega), if_neg (fun x => c2 x.2)]
    · rw [if_neg (by omega), if_neg (fun x => c1 x.1)]
  have e62' : ¬ c = 101 → mX5_nextCell_62 n s (B + 46) (iI (z : Int)) (iI (c : Int)) (iI ((z % 16 : Nat) : Int)) = some (iI (z : Int), s) := fun q => by
    unfold mX5_nextCell_62
    simp (disch := omega) only [iL, iI_eq]
    rw [if_neg (by omega)]
  have e48 : ¬ c = 119 → ¬ c = 101 → mX5_nextCell_48 n s (B + 46) (iI (z : Int)) (iI (c : Int)) (iI ((z % 16 : Nat) : Int)) = some (iI (z : Int), s) := fun q1 q2 => by
    unfold mX5_nextCell_48
    simp (disch := omega) only [iL, iI_eq]
    rw [if_neg (by omega), e62' q2]
  by_cases c110 : c = 110
  · rw [if_pos (by omega)]
    by_cases y0 : 0 < z / 16
    · rw [if_neg (by omega), if_pos ⟨c110, y0⟩, iI_sub, show (z : Int) - 16 = ((z - 16 : Nat) : Int) by omega]
    · rw [if_pos (by omega), if_neg (fun x => y0 x.2), if_neg (by omega), if_neg (by omega), if_neg (by omega)]
      unfold mX5_nextCell_26
      simp (disch := omega) only [iL, iI_eq]
      rw [if_neg (by omega), e48 (by omega) (by omega)]
  · rw [if_neg (by omega), if_neg (fun x => c110 x.1)]
    unfold mX5_nextCell_26
    simp (disch := omega) only [iL, iI_eq, g1, Option.bind_some, iI_sub, iI_le, iI_add]
    by_cases c115 : c = 115
    · rw [if_pos (by omega)]
      by_cases y1 : z / 16 + 1 < deep A
      · rw [if_neg (by omega), if_pos ⟨c115, y1⟩]; rfl
      · rw [if_pos (by omega), if_neg (fun x => y1 x.2), if_neg (by omega), if_neg (by omega), e48 (by omega) (by omega)]
    · rw [if_neg (by omega), if_neg (fun x => c115 x.1)]
      unfold mX5_nextCell_48
      simp (disch := omega) only [iL, iI_eq, iI_le, iI_sub]
      by_cases c119 : c = 119
      · rw [if_pos (by omega)]
        by_cases x0 : 0 < z % 16
        · rw [if_neg (by omega), if_pos ⟨c119, x0⟩, show (z : Int) - 1 = ((z - 1 : Nat) : Int) by omega]
        · rw [if_pos (by omega), if_neg (fun x => x0 x.2), if_neg (by omega), e62' (by omega)]
      · rw [if_neg (by omega), if_neg (fun x => c119 x.1), e62 c110 c115 c119]
theorem w_cellNow (h : WlkP s q p b u) (hu : u.1 ≤ 60) : mX8_cellOf n s q (iI (u.1 : Int)) = some (iI (u.2.1 u.1 : Nat), s) := by
  obtain ⟨⟨s0, s1, s2, s3⟩, ⟨f0, f1, f2, f3, f4, f6, f7, f8⟩, ⟨e1, m1, c1⟩, -, -⟩ := h
  unfold mX8_cellOf
  simp only [isO_ok s0, Option.bind_some, gI_ok s0 (show 6 < 9 by omega) f6, gR_ok s0 (show 2 < 9 by omega) f2, iI_0]
  rw [if_neg (by rw [iI_lt (by omega) (by omega)]; omega), if_neg (by rw [iI_lt (by omega) (by omega)]; omega), aI_ok s1 m1 (by omega) (by omega) (by omega), show ((u.1 : Int)).toNat = u.1 by omega, c1 _ (Nat.le_refl _)]
  rfl
/-- a come behind what the player has noted -/
theorem PL.go (hP : PlB B s0 q s) (hW : WlkP s q p b u) (hq : B + 90 ≤ q) (h8 : s.2.2 (B + 48) = iz ea) (h9 : s.2.2 (B + 49) = iz eb) {lc : Nat} {el : Nat → Int} (h3 : s.2.2 (B + 46) 3 = .int (iI (lc : Int))) (h7 : s.2.2 (B + 47) = iz el) (hl : lc ≤ 60) (hc : u.1 < 60 → u.2.1 u.1 < 256) {z : Nat} (hz : z < 256) {lc' : Nat} {lf : Nat → Nat} (hk : u.1 < 60 → lc = lc' ∧ ∀ k, k < lc → el k = lf k) (hu : u.1 ≤ 60) (v : Pu) (hv : v = if u.1 = 60 then u else (u.1 + 1, upN u.2.1 (u.1 + 1) z, lc', lf)) : ∃ s', mX8_come n s q (iI (z : Int)) = some s' ∧ PL B q p b s0 v ea eb s' := by
  by_cases c : u.1 = 60
  · rw [if_pos c] at hv
    subst hv
    exact ⟨s, x_comeEnd hW c _, hP, hW, ⟨lc, el, h3, hl, h7, fun x => by omega⟩, h8, h9⟩
  · rw [if_neg c] at hv
    subst hv
    obtain ⟨s', k1, k2, k3, k4, k5⟩ := x_come (n := n) hW (by omega) (hc (by omega)) hz lc' lf
    obtain ⟨j1, j2⟩ := hk (by omega)
    exact ⟨s', k1, hP.hi hq k3 k4 k5, k2, ⟨lc, el, by rw [k5 _ (by omega)]; exact h3, hl, by rw [k5 _ (by omega)]; exact h7, fun _ => ⟨j1, j2⟩⟩, by rw [k5 _ (by omega)]; exact h8, by rw [k5 _ (by omega)]; exact h9⟩
theorem x_pmove (h0 : PL0 B q wa s0 A) (h : PL B q p b s0 u ea eb s) (hu : PWf A u) {c : Nat} (hc : isMv c) : ∃ s', mX5_move n s (B + 46) q (iI (c : Int)) = some s' ∧ PL B q p b s0 (pst A c u) ea eb s' := by
  have hS := h.st h0
  have hA := hS.2.2
  have wd := hA.1
  have hq := h0.2.1
  obtain ⟨hP, hW, ⟨lc, el, l1, l2, l3, l4⟩, h8, h9⟩ := h
  obtain ⟨q1, q2, q3, q4⟩ := id hu
  have cur := q3 u.1 (Nat.le_refl _)
  have c256 : u.2.1 u.1 < 256 := by omega
  have s46 : s.2.1 (B + 46) = some (5, 6) := hS.1.sh 46 (by omega)
  have s47 : s.2.1 (B + 47) = some (11, 60) := hS.1.sh 47 (by omega)
  have w0 := hW.1.1
  have w6 := hW.2.1.2.2.2.2.2.1
  unfold mX5_move
  simp (disch := omega) only [isO_ok s46, Option.bind_some, gI_ok w0 (show 6 < 9 by omega) w6, w_cellNow hW q1, iL, iI_eq, gI_ok s46 (show 3 < 6 by omega) l1, iI_le]
  by_cases c98 : c = 98
  · rw [if_pos (by omega)]
    by_cases cl : lc = 0
    · rw [if_pos (by omega)]
      unfold mX5_move_42
      obtain ⟨s', k1, k2⟩ := PL.go (n := n) (lc' := lc) (lf := u.2.2.2) hP hW hq h8 h9 l1 l3 l2 (fun _ => c256) c256 (fun x => ⟨rfl, (l4 x).2⟩) q1 (pst A c u) (by
        unfold pst
        by_cases c60 : u.1 = 60
        · rw [if_pos c60, if_pos c60]
        · have := (l4 (by omega)).1
          rw [if_neg c60, if_neg c60, if_pos c98, if_neg (by omega), this])
      simp only [k1, Option.bind_some]
      exact ⟨s', rfl, k2⟩
    · rw [if_neg (by omega)]
      have P1 := hP.f46 (.int (iI ((lc : Int) - 1)))
      have W1 : WlkP (setF s (B + 46) 3 (.int (iI ((lc : Int) - 1)))) q p b u := hW.same rfl (fun j hj => setF_ne _ _ _ (by omega))
      have t46 : (setF s (B + 46) 3 (.int (iI ((lc : Int) - 1)))).2.1 (B + 46) = some (5, 6) := s46
      have t47 : (setF s (B + 46) 3 (.int (iI ((lc : Int) - 1)))).2.1 (B + 47) = some (11, 60) := s47
      have m47 : (setF s (B + 46) 3 (.int (iI ((lc : Int) - 1)))).2.2 (B + 47) = iz el := by rw [setF_ne _ _ _ (by omega)]; exact l3
      have f2 : (setF s (B + 46) 3 (.int (iI ((lc : Int) - 1)))).2.2 (B + 46) 2 = .ref (B + 47) := by rw [setF_k _ _ _ (by omega)]; exact hS.1.pt 20 rfl
      have rd : toI (aV 11 (setF s (B + 46) 3 (.int (iI ((lc : Int) - 1)))) (B + 47) (iI ((lc : Int) - 1))) = some (iI (el (lc - 1))) := by
        rw [aI_ok t47 m47 (by omega) (by omega) (by omega), show ((lc : Int) - 1).toNat = lc - 1 by omega]
      simp only [iI_sub, pV_ok s46 (show 3 < 6 by omega), Option.bind_some, gR_ok t46 (show 2 < 6 by omega) f2, gI_ok t46 (show 3 < 6 by omega) (setF_self _ _ _ _), rd]
      unfold mX5_move_42
      by_cases c60 : u.1 = 60
      · rw [x_comeEnd W1 c60]
        refine ⟨_, rfl, ?_⟩
        rw [pst_60 c60]
        refine ⟨P1, W1, ⟨lc - 1, el, ?_, by omega, m47, fun x => by omega⟩, ?_, ?_⟩
        · rw [setF_self, show ((lc - 1 : Nat) : Int) = (lc : Int) - 1 by omega]
        · rw [setF_ne _ _ _ (by omega)]; exact h8
        · rw [setF_ne _ _ _ (by omega)]; exact h9
      · obtain ⟨e1, e2⟩ := l4 (by omega)
        have lz := e2 (lc - 1) (by omega)
        have yz := q4 (lc - 1) (by omega)
        rw [lz]
        obtain ⟨s', k1, k2⟩ := PL.go (n := n) (ea := ea) (eb := eb) (lc := lc - 1) (el := el) (z := u.2.2.2 (lc - 1)) (lc' := lc - 1) (lf := u.2.2.2) P1 W1 hq (by rw [setF_ne _ _ _ (by omega)]; exact h8) (by rw [setF_ne _ _ _ (by omega)]; exact h9) (by rw [setF_self, show ((lc - 1 : Nat) : Int) = (lc : Int) - 1 by omega]) m47 (by omega) (fun _ => c256) (by omega) (fun x => ⟨rfl, fun k hk => e2 k (by omega)⟩) q1 (pst A c u) (by
          unfold pst
          rw [if_neg c60, if_neg c60, if_pos c98, if_pos (by omega), ← e1])
        simp only [k1, Option.bind_some]
        exact ⟨s', rfl, k2⟩
  · rw [if_neg (by omega)]
    have c255 : c ≤ 255 := by omega
    have nY := nxt_Y hA (c := c) cur
    have n256 : nxt A c (u.2.1 u.1) < 256 := by omega
    simp (disch := omega) only [x_nextCell hS.1 hA cur c255, Option.bind_some, iI_eq]
    by_cases ce : nxt A c (u.2.1 u.1) = u.2.1 u.1
    · rw [if_pos (by omega)]
      unfold mX5_move_94
      obtain ⟨s', k1, k2⟩ := PL.go (n := n) (z := nxt A c (u.2.1 u.1)) (lc' := lc) (lf := u.2.2.2) hP hW hq h8 h9 l1 l3 l2 (fun _ => c256) n256 (fun x => ⟨rfl, (l4 x).2⟩) q1 (pst A c u) (by
        unfold pst
        by_cases c60 : u.1 = 60
        · rw [if_pos c60, if_pos c60]
        · have := (l4 (by omega)).1
          rw [if_neg c60, if_neg c60, if_neg c98, if_pos ce, ce, this])
      simp only [k1, Option.bind_some]
      exact ⟨s', rfl, k2⟩
    · rw [if_neg (by omega)]
      simp (disch := omega) only [gI_ok s46 (show 3 < 6 by omega) l1, gR_ok s46 (show 2 < 6 by omega) (hS.1.pt 20 rfl), lenA_ok s47, Option.bind_some, iI_le]
      by_cases full : lc = 60
      · rw [if_pos (by omega)]
        have c60 : u.1 = 60 := by
          rcases Nat.lt_or_ge u.1 60 with z | z
          · have := (l4 z).1; omega
          · omega
        unfold mX5_move_94
        rw [x_comeEnd hW c60]
        refine ⟨s, rfl, ?_⟩
        rw [pst_60 c60]
        exact ⟨hP, hW, ⟨lc, el, l1, l2, l3, l4⟩, h8, h9⟩
      · rw [if_neg (by omega)]
        have w1 : sV 11 s (B + 47) (iI (lc : Int)) (.int (iI (u.2.1 u.1 : Nat))) = some (setA s (B + 47) (updZ el lc (u.2.1 u.1 : Nat))) := by
          rw [sV_ok s47 l3 (by omega) (by omega) (by omega), show ((lc : Int)).toNat = lc by omega]
        generalize hS1 : setA s (B + 47) (updZ el lc (u.2.1 u.1 : Nat)) = S1 at w1
        have t46 : S1.2.1 (B + 46) = some (5, 6) := by rw [← hS1]; exact s46
        have f3 : S1.2.2 (B + 46) 3 = .int (iI (lc : Int)) := by rw [← hS1, setA_ne _ _ (by omega)]; exact l1
        have P1 : PlB B s0 q (setF S1 (B + 46) 3 (.int (iI ((lc : Int) + 1)))) := by rw [← hS1]; exact (hP.ar (Or.inl rfl) _).f46 _
        have W1 : WlkP (setF S1 (B + 46) 3 (.int (iI ((lc : Int) + 1)))) q p b u := hW.same (by rw [← hS1]; rfl) (fun j hj => by rw [setF_ne _ _ _ (by omega), ← hS1, setA_ne _ _ (by omega)])
        have m47 : (setF S1 (B + 46) 3 (.int (iI ((lc : Int) + 1)))).2.2 (B + 47) = iz (updZ el lc (u.2.1 u.1 : Nat)) := by rw [setF_ne _ _ _ (by omega), ← hS1, setA_self]
        have m48 : (setF S1 (B + 46) 3 (.int (iI ((lc : Int) + 1)))).2.2 (B + 48) = iz ea := by rw [setF_ne _ _ _ (by omega), ← hS1, setA_ne _ _ (by omega)]; exact h8
        have m49 : (setF S1 (B + 46) 3 (.int (iI ((lc : Int) + 1)))).2.2 (B + 49) = iz eb := by rw [setF_ne _ _ _ (by omega), ← hS1, setA_ne _ _ (by omega)]; exact h9
        simp only [w1, Option.bind_some, gI_ok t46 (show 3 < 6 by omega) f3, iI_add, pV_ok t46 (show 3 < 6 by omega)]
        unfold mX5_move_94
        obtain ⟨s', k1, k2⟩ := PL.go (n := n) (lc := lc + 1) (z := nxt A c (u.2.1 u.1)) (lc' := lc + 1) (lf := upN u.2.2.2 lc (u.2.1 u.1)) P1 W1 hq m48 m49 (setF_self _ _ _ _) m47 (by omega) (fun _ => c256) n256 (fun x => ⟨rfl, fun k hk => by
            unfold updZ upN
            by_cases ck : k = lc
            · rw [if_pos ck, if_pos ck]
            · rw [if_neg ck, if_neg ck]; exact (l4 x).2 k (by omega)⟩) q1 (pst A c u) (by
          unfold pst
          by_cases c60 : u.1 = 60
          · rw [if_pos c60, if_pos c60]
          · have := (l4 (by omega)).1
            rw [if_neg c60, if_neg c60, if_neg c98, if_neg ce, ← this])
        simp only [k1, Option.bind_some]
        exact ⟨s', rfl, k2⟩
end X84
