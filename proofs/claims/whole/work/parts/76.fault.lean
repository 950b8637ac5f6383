/-! ===== the class: fault ===== -/
def bB (b : Bool) : Int32 := if b = true then 1 else 0
theorem bB_t : bB true = (1 : Int32) := rfl
theorem bB_f : bB false = (0 : Int32) := rfl
theorem bB_i0 (b : Bool) : (bB b = iI 0) ↔ b = false := by cases b <;> decide
theorem bB_0 (b : Bool) : (bB b = 0) ↔ b = false := by cases b <;> decide
section X76
variable {B n : Nat} {wa : Nat → Nat} {s : Sg} {A : AS} {g : Nat → Value}
/-- what the reading of the moves leaves -/
def MvQ (B : Nat) (s : Sg) (A : AS) (g : Nat → Value) (r : Int) (q : (Sg × Int32 × Int32 × Int32) ⊕ (Int32 × Sg)) : Prop :=
  (∃ e : Nat, r = e ∧ q = .inr (0, TT B s (updV g 2 (.int (iI (e : Int)))))) ∨ ∃ (o : Nat) (sm rp : Bool), o ≤ 3 ∧ q = .inl (TT B s (updV g 2 (.int (iI (tn A : Int)))), iI (o : Int), bB sm, bB rp) ∧ r = if o = 0 ∧ sm = true ∧ rp = false then (-1 : Int) else (tn A : Int)
theorem x_movesLoop (h : St B wa s A) : ∀ (k i o : Nat) (sm rp : Bool) (g : Nat → Value) (f : Nat), i + k = tn A → o ≤ 3 → Tp B s g i → k < f → ∃ q, loopM (mX7_readsMoves_L6 n (B + 1)) f (TT B s g, iI (o : Int), bB sm, bB rp) = some q ∧ MvQ B s A g (au A k i o sm rp) q := by
  have hA := h.2.2
  have t160 := hA.2.1.1
  intro k
  induction k with
  | zero =>
    intro i o sm rp g f hk ho hg hf
    obtain ⟨f, rfl⟩ : ∃ f', f = f' + 1 := ⟨f - 1, by omega⟩
    obtain ⟨S1, -⟩ := TT_St h hg.1
    have ei : i = tn A := by omega
    subst ei
    refine ⟨.inl (TT B s g, iI (o : Int), bB sm, bB rp), ?_, Or.inr ⟨o, sm, rp, ho, by rw [updV_id hg.2], rfl⟩⟩
    simp only [loopM, mX7_readsMoves_L6, TT_g h 2 (by omega) hg.2, Option.bind_some, S1.1.tsize]
    rw [if_pos (by rw [iI_le (by omega) (by omega)]; omega)]
  | succ k ih =>
    intro i o sm rp g f hk ho hg hf
    obtain ⟨f, rfl⟩ : ∃ f', f = f' + 1 := ⟨f - 1, by omega⟩
    obtain ⟨S1, -⟩ := TT_St h hg.1
    have cr := cb_R hA i
    have G1 := hg.go (i + 1)
    have nx : ∀ (o' : Nat) (sm' rp' : Bool), o' ≤ 3 → ∃ q, loopM (mX7_readsMoves_L6 n (B + 1)) f (TT B s (updV g 2 (.int (iI ((i + 1 : Nat) : Int)))), iI (o' : Int), bB sm', bB rp') = some q ∧ MvQ B s A g (au A k (i + 1) o' sm' rp') q := fun o' sm' rp' ho' => by
      obtain ⟨q, q1, q2⟩ := ih (i + 1) o' sm' rp' _ f (by omega) ho' G1 (by omega)
      refine ⟨q, q1, ?_⟩
      unfold MvQ at q2 ⊢
      simp only [updV_2] at q2
      exact q2
    have e121 : ∀ x1 x2 x3 : Int32, mX7_readsMoves_121 n (TT B s g) (B + 1) x1 x2 x3 = some (.inl (TT B s (updV g 2 (.int (iI ((i + 1 : Nat) : Int)))), x1, x2, x3)) := fun x1 x2 x3 => by
      simp only [mX7_readsMoves_121, TT_g h 2 (by omega) hg.2, Option.bind_some, pt1, TT_p h 2 (by omega)]
    have c0 : ¬ iI (tn A : Int) ≤ iI (i : Int) := by rw [iI_le (by omega) (by omega)]; omega
    have body : mX7_readsMoves_L6 n (B + 1) (TT B s g, iI (o : Int), bB sm, bB rp) = if isMv (cb A i) then mX7_readsMoves_121 n (TT B s g) (B + 1) (iI (o : Int)) (1 : Int32) (0 : Int32) else if isRp (cb A i) ∧ rp = false then mX7_readsMoves_121 n (TT B s g) (B + 1) (iI (o : Int)) (bB sm) (1 : Int32) else mX7_readsMoves_65 n (TT B s g) (B + 1) (iI (o : Int)) (bB sm) (bB rp) (iI (cb A i : Nat)) := by
      simp only [mX7_readsMoves_L6, TT_g h 2 (by omega) hg.2, Option.bind_some, S1.1.tsize, x_byteAt S1.1 hA (show i ≤ 1000000 by omega), x_isMove cr]
      rw [if_neg c0]
      by_cases m1 : isMv (cb A i)
      · rw [if_pos m1, if_pos m1, if_neg i10]
      · rw [if_neg m1, if_neg m1, if_pos i00]
        simp (disch := omega) only [iL, iI_lt]
        by_cases m2 : cb A i < 50
        · rw [if_pos (by omega), if_neg (fun q => by omega)]
        · rw [if_neg (by omega)]
          by_cases m3 : 57 < cb A i
          · rw [if_pos (by omega), if_neg (fun q => by omega)]
          · rw [if_neg (by omega)]
            by_cases m4 : rp = false
            · rw [if_pos ((bB_i0 rp).mpr m4), if_pos ⟨⟨by omega, by omega⟩, m4⟩]
            · rw [if_neg (fun q => m4 ((bB_i0 rp).mp q)), if_neg (fun q => m4 q.2)]
    have e65 : mX7_readsMoves_65 n (TT B s g) (B + 1) (iI (o : Int)) (bB sm) (bB rp) (iI (cb A i : Nat)) = if cb A i = 40 ∧ o < 3 then mX7_readsMoves_121 n (TT B s g) (B + 1) (iI ((o + 1 : Nat) : Int)) (0 : Int32) (0 : Int32) else if cb A i = 41 ∧ 0 < o ∧ sm = true ∧ rp = false then mX7_readsMoves_121 n (TT B s g) (B + 1) (iI ((o - 1 : Nat) : Int)) (bB sm) (bB rp) else if cb A i = 32 then mX7_readsMoves_121 n (TT B s g) (B + 1) (iI (o : Int)) (bB sm) (bB rp) else some (.inr (.inr ((0 : Int32), TT B s g))) := by
      have f112 : ¬ cb A i = 41 ∨ ¬ (0 < o ∧ sm = true ∧ rp = false) → mX7_readsMoves_112 n (TT B s g) (B + 1) (iI (o : Int)) (bB sm) (bB rp) (iI (cb A i : Nat)) = if cb A i = 41 ∧ 0 < o ∧ sm = true ∧ rp = false then mX7_readsMoves_121 n (TT B s g) (B + 1) (iI ((o - 1 : Nat) : Int)) (bB sm) (bB rp) else if cb A i = 32 then mX7_readsMoves_121 n (TT B s g) (B + 1) (iI (o : Int)) (bB sm) (bB rp) else some (.inr (.inr ((0 : Int32), TT B s g))) := fun q => by
        rw [if_neg (fun z => by rcases q with q | q; exact q z.1; exact q z.2)]
        unfold mX7_readsMoves_112
        by_cases m : cb A i = 32
        · rw [if_pos (by rw [m]; rfl), if_pos m]
        · rw [if_neg (by rw [iL, iI_eq (by omega) (by omega)]; omega), if_neg m]
      have f87 : mX7_readsMoves_87 n (TT B s g) (B + 1) (iI (o : Int)) (bB sm) (bB rp) (iI (cb A i : Nat)) = if cb A i = 41 ∧ 0 < o ∧ sm = true ∧ rp = false then mX7_readsMoves_121 n (TT B s g) (B + 1) (iI ((o - 1 : Nat) : Int)) (bB sm) (bB rp) else if cb A i = 32 then mX7_readsMoves_121 n (TT B s g) (B + 1) (iI (o : Int)) (bB sm) (bB rp) else some (.inr (.inr ((0 : Int32), TT B s g))) := by
        unfold mX7_readsMoves_87
        by_cases m : cb A i = 41
        · rw [if_pos (by rw [m]; rfl)]
          by_cases m2 : o = 0
          · rw [if_pos (by rw [iI_0, iI_le (by omega) (by omega)]; omega), f112 (Or.inr (fun z => by omega))]
          · rw [if_neg (by rw [iI_0, iI_le (by omega) (by omega)]; omega)]
            by_cases m3 : sm = false
            · rw [if_pos ((bB_0 sm).mpr m3), f112 (Or.inr (fun z => by rw [m3] at z; cases z.2.1))]
            · rw [if_neg (fun q => m3 ((bB_0 sm).mp q))]
              by_cases m4 : rp = false
              · rw [if_pos ((bB_0 rp).mpr m4), if_pos ⟨m, by omega, by cases sm <;> simp_all, m4⟩]
                have eo : iI (o : Int) + (-1 : Int32) = iI ((o - 1 : Nat) : Int) := by rw [iI_m1, iI_add, show (o : Int) + -1 = ((o - 1 : Nat) : Int) by omega]
                rw [eo]
              · rw [if_neg (fun q => m4 ((bB_0 rp).mp q)), f112 (Or.inr (fun z => m4 z.2.2))]
        · rw [if_neg (by rw [iL, iI_eq (by omega) (by omega)]; omega), f112 (Or.inl m)]
      unfold mX7_readsMoves_65
      by_cases m : cb A i = 40
      · rw [if_pos (by rw [m]; rfl)]
        by_cases m2 : o < 3
        · rw [if_neg (by rw [iL, iI_le (by omega) (by omega)]; omega), if_pos ⟨m, m2⟩, pt1]
        · rw [if_pos (by rw [iL, iI_le (by omega) (by omega)]; omega), if_neg (fun z => m2 z.2), f87]
      · rw [if_neg (by rw [iL, iI_eq (by omega) (by omega)]; omega), if_neg (fun z => m z.1), f87]
    rw [au_s]
    simp only [loopM, body]
    by_cases m1 : isMv (cb A i)
    · rw [if_pos m1, if_pos m1, e121]
      exact nx o true false ho
    · rw [if_neg m1, if_neg m1]
      by_cases m2 : isRp (cb A i) ∧ rp = false
      · rw [if_pos m2, if_pos m2, e121]
        exact nx o sm true ho
      · rw [if_neg m2, if_neg m2, e65]
        by_cases m3 : cb A i = 40 ∧ o < 3
        · rw [if_pos m3, if_pos m3, e121]
          exact nx (o + 1) false false (by omega)
        · rw [if_neg m3, if_neg m3]
          by_cases m4 : cb A i = 41 ∧ 0 < o ∧ sm = true ∧ rp = false
          · rw [if_pos m4, if_pos m4, e121]
            exact nx (o - 1) sm rp (by omega)
          · rw [if_neg m4, if_neg m4]
            by_cases m5 : cb A i = 32
            · rw [if_pos m5, if_pos m5, e121]
              exact nx o sm rp ho
            · rw [if_neg m5, if_neg m5]
              exact ⟨_, rfl, Or.inl ⟨i, rfl, by rw [updV_id hg.2]⟩⟩
theorem au_R : ∀ (k i o : Nat) (sm rp : Bool), au A k i o sm rp = -1 ∨ ∃ e : Nat, au A k i o sm rp = e ∧ i ≤ e ∧ e ≤ i + k
  | 0, i, o, sm, rp => by
    unfold au
    split
    · exact Or.inl rfl
    · exact Or.inr ⟨i, rfl, Nat.le_refl _, by omega⟩
  | k + 1, i, o, sm, rp => by
    have nx : ∀ o' sm' rp', au A k (i + 1) o' sm' rp' = -1 ∨ ∃ e : Nat, au A k (i + 1) o' sm' rp' = e ∧ i ≤ e ∧ e ≤ i + (k + 1) := fun o' sm' rp' => by
      rcases au_R k (i + 1) o' sm' rp' with q | ⟨e, q1, q2, q3⟩
      · exact Or.inl q
      · exact Or.inr ⟨e, q1, by omega, by omega⟩
    rw [au_s]
    split
    · exact nx _ _ _
    · split
      · exact nx _ _ _
      · split
        · exact nx _ _ _
        · split
          · exact nx _ _ _
          · split
            · exact nx _ _ _
            · exact Or.inr ⟨i, rfl, Nat.le_refl _, by omega⟩
theorem x_moves (h : St B wa s A) {i : Nat} (hg : Tp B s g i) (hi : i ≤ tn A) (hn : 100000 ≤ n) : ∃ (r : Int32) (g' : Nat → Value) (e : Nat), mX7_readsMoves n (TT B s g) (B + 1) = some (r, TT B s g') ∧ Tp B s g' e ∧ (∀ k, 3 ≤ k → g' k = g k) ∧ ((r = 1 ∧ au A (tn A - i) i 0 false false = -1) ∨ (r = 0 ∧ au A (tn A - i) i 0 false false = e)) := by
  have hA := h.2.2
  have t160 := hA.2.1.1
  have h7 : ∀ g, (TT B s g).2.1 (B + 1) = some (7, 7) := fun g => h.1.t
  obtain ⟨q, q1, q2⟩ := x_movesLoop (n := n) h (tn A - i) i 0 false false g n (by omega) (by omega) hg (by omega)
  have q1' : loopM (mX7_readsMoves_L6 n (B + 1)) n (TT B s g, (0 : Int32), (0 : Int32), (0 : Int32)) = some q := q1
  unfold mX7_readsMoves
  simp only [isO_ok (h7 g), Option.bind_some, q1']
  rcases q2 with ⟨e, q2, rfl⟩ | ⟨o, sm, rp, ho, rfl, q2⟩
  · exact ⟨0, _, e, rfl, hg.go e, fun k hk => updV_ne _ _ (by omega), Or.inr ⟨rfl, q2⟩⟩
  · by_cases c1 : o = 0
    · by_cases c2 : sm = true
      · by_cases c3 : rp = false
        · rw [if_pos ⟨c1, c2, c3⟩] at q2
          refine ⟨1, _, tn A, ?_, hg.go (tn A), fun k hk => updV_ne _ _ (by omega), Or.inl ⟨rfl, q2⟩⟩
          subst c1 c2 c3
          rfl
        · rw [if_neg (fun z => c3 z.2.2)] at q2
          refine ⟨0, _, tn A, ?_, hg.go (tn A), fun k hk => updV_ne _ _ (by omega), Or.inr ⟨rfl, q2⟩⟩
          have c3' : rp = true := by cases rp <;> simp_all
          subst c1 c2 c3'
          rfl
      · rw [if_neg (fun z => c2 z.2.1)] at q2
        refine ⟨0, _, tn A, ?_, hg.go (tn A), fun k hk => updV_ne _ _ (by omega), Or.inr ⟨rfl, q2⟩⟩
        have c2' : sm = false := by cases sm <;> simp_all
        subst c1 c2'
        rfl
    · rw [if_neg (fun z => c1 z.1)] at q2
      refine ⟨0, _, tn A, ?_, hg.go (tn A), fun k hk => updV_ne _ _ (by omega), Or.inr ⟨rfl, q2⟩⟩
      show (if iI (o : Int) = 0 then _ else _) = _
      rw [if_neg (by rw [iI_0, iI_eq (by omega) (by omega)]; omega)]
theorem numF_pos {j bd : Nat} (hj : j ≤ tn A) : (numF A j bd).2.1 ≤ tn A := by
  unfold numF
  have e : ∀ v l, isDg (cb A l) → (numE A bd v l).2.1 ≤ tn A := fun v l hl => by
    have := cb_in (A := A) (i := l) (by omega)
    unfold numE
    split
    · split
      · exact this
      · exact this
    · exact Nat.le_of_lt this
  split
  · split
    · exact e _ _ ‹_›
    · exact e _ _ ‹_›
  · exact hj
theorem x_wrongAt (h : St B wa s A) (hg : ∀ k, k < 2 → g k = s.2.2 (B + 1) k) (hn : 100000 ≤ n) : ∃ g', mX7_wrongAt n (TT B s g) (B + 1) (iI (wide A)) (iI (deep A)) = some (iI (flt A), TT B s g') ∧ (∀ k, k < 2 → g' k = s.2.2 (B + 1) k) ∧ (flt A = -1 → (hdF A).1 = -1 ∧ g' 4 = .int (iI ((hdF A).2.1 : Int)) ∧ g' 5 = .int (iI ((hdF A).2.2.1 : Int)) ∧ g' 6 = .int (iI ((hdF A).2.2.2 : Int))) := by
  have hA := h.2.2
  have t160 := hA.2.1.1
  have wd := hA.1
  have h7 : ∀ g, (TT B s g).2.1 (B + 1) = some (7, 7) := fun g => h.1.t
  have G0 : Tp B s (updV g 2 (.int (0 : Int32))) 0 := ⟨fun k hk => by rw [updV_ne _ _ (by omega)]; exact hg k hk, updV_self _ _ _⟩
  unfold mX7_wrongAt
  simp only [isO_ok (h7 g), Option.bind_some, TT_p h 2 (by omega)]
  have s0 := sk_le (A := A) (i := 0) (by omega)
  unfold flt
  rcases x_reads (n := n) h G0 (c := 64) (by omega) (by omega) hn with ⟨a1, a2⟩ | ⟨a1, a2⟩
  · have in0 := cb_in (A := A) (i := sk A 0) (by omega)
    have a2' : mX7_reads n (TT B s (updV g 2 (.int (0 : Int32)))) (B + 1) (64 : Int32) = some (1, TT B s (updV (updV g 2 (.int (0 : Int32))) 2 (.int (iI (sk A 0 + 1 : Nat))))) := a2
    simp only [a2', Option.bind_some]
    rw [if_neg i10]
    have e1 : hdF A = hd2 A (numF A (sk A (sk A 0 + 1)) (wide A)) := by unfold hdF hd1; rw [if_pos a1]
    rw [e1]
    obtain ⟨g1, b1, b2, b3, b4⟩ := x_number (n := n) h (G0.go (sk A 0 + 1)) (by omega) (show wide A ≤ 1000 by omega) hn
    have p1 := numF_pos (A := A) (j := sk A (sk A 0 + 1)) (bd := wide A) (sk_le (by omega))
    generalize numF A (sk A (sk A 0 + 1)) (wide A) = q1 at b1 b2 b3 b4 p1
    simp only [b1, Option.bind_some]
    by_cases c1 : q1.1 = true
    · rw [if_pos c1, if_neg i10]
      have e2 : hd2 A q1 = hd3 A q1.2.2 (sk A q1.2.1) := by unfold hd2; rw [if_pos c1]
      rw [e2]
      have G2 := b2.put (k := 4) (by omega) (.int (iI (q1.2.2 : Int)))
      simp only [TT_g h 3 (by omega) (b3 c1), Option.bind_some, TT_p h 4 (by omega)]
      have s1 := sk_le p1
      rcases x_reads (n := n) h G2 (c := 44) p1 (by omega) hn with ⟨d1, d2⟩ | ⟨d1, d2⟩
      · have in1 := cb_in (A := A) (i := sk A q1.2.1) (by omega)
        have d2' : mX7_reads n (TT B s (updV g1 4 (.int (iI (q1.2.2 : Int))))) (B + 1) (44 : Int32) = some (1, TT B s (updV (updV g1 4 (.int (iI (q1.2.2 : Int)))) 2 (.int (iI (sk A q1.2.1 + 1 : Nat))))) := d2
        simp only [d2', Option.bind_some]
        rw [if_neg i10]
        have e3 : hd3 A q1.2.2 (sk A q1.2.1) = hd4 A q1.2.2 (numF A (sk A (sk A q1.2.1 + 1)) (deep A)) := by unfold hd3; rw [if_pos d1]
        rw [e3]
        obtain ⟨g3, f1, f2, f3, f4⟩ := x_number (n := n) h (G2.go (sk A q1.2.1 + 1)) (by omega) (show deep A ≤ 1000 by omega) hn
        have p2 := numF_pos (A := A) (j := sk A (sk A q1.2.1 + 1)) (bd := deep A) (sk_le (by omega))
        generalize numF A (sk A (sk A q1.2.1 + 1)) (deep A) = q2 at f1 f2 f3 f4 p2
        simp only [f1, Option.bind_some]
        by_cases c2 : q2.1 = true
        · rw [if_pos c2, if_neg i10]
          have e4 : hd4 A q1.2.2 q2 = (-1, q1.2.2, q2.2.2, q2.2.1) := by unfold hd4; rw [if_pos c2]
          rw [e4]
          have G4 := f2.put (k := 5) (by omega) (.int (iI (q2.2.2 : Int)))
          have G5 := G4.put (k := 6) (by omega) (.int (iI (q2.2.1 : Int)))
          simp only [TT_g h 3 (by omega) (f3 c2), Option.bind_some, TT_p h 5 (by omega), TT_g h 2 (by omega) G4.2, TT_p h 6 (by omega)]
          obtain ⟨r, g6, e, m1, m2, m3, m4⟩ := x_moves (n := n) h G5 p2 hn
          simp only [m1, Option.bind_some]
          have k4 : g6 4 = .int (iI (q1.2.2 : Int)) := by
            rw [m3 4 (by omega), updV_ne _ _ (by omega), updV_ne _ _ (by omega), f4 4 (by omega), updV_ne _ _ (by omega), updV_self]
          have k5 : g6 5 = .int (iI (q2.2.2 : Int)) := by rw [m3 5 (by omega), updV_ne _ _ (by omega), updV_self]
          have k6 : g6 6 = .int (iI (q2.2.1 : Int)) := by rw [m3 6 (by omega), updV_self]
          rcases m4 with ⟨rfl, m4⟩ | ⟨rfl, m4⟩
          · rw [if_neg i10]
            simp only [if_true, m4]
            exact ⟨g6, rfl, m2.1, fun _ => ⟨trivial, k4, k5, k6⟩⟩
          · rw [if_pos i00]
            simp only [if_true, m4, TT_g h 2 (by omega) m2.2, Option.bind_some]
            exact ⟨g6, rfl, m2.1, fun z => by omega⟩
        · rw [if_neg c2, if_pos i00]
          have e4 : hd4 A q1.2.2 q2 = ((q2.2.1 : Int), 0, 0, 0) := by unfold hd4; rw [if_neg c2]
          rw [e4]
          simp only [mX7_wrongAt_52, TT_g h 2 (by omega) f2.2, Option.bind_some]
          rw [if_neg (by omega)]
          exact ⟨g3, rfl, f2.1, fun z => by omega⟩
      · have d2' : mX7_reads n (TT B s (updV g1 4 (.int (iI (q1.2.2 : Int))))) (B + 1) (44 : Int32) = some (0, TT B s (updV (updV g1 4 (.int (iI (q1.2.2 : Int)))) 2 (.int (iI (sk A q1.2.1 : Nat))))) := d2
        simp only [d2', Option.bind_some, if_true]
        have e3 : hd3 A q1.2.2 (sk A q1.2.1) = ((sk A q1.2.1 : Int), 0, 0, 0) := by unfold hd3; rw [if_neg d1]
        rw [e3]
        have G3 := G2.go (sk A q1.2.1)
        simp only [mX7_wrongAt_52, TT_g h 2 (by omega) G3.2, Option.bind_some]
        rw [if_neg (by omega)]
        exact ⟨_, rfl, G3.1, fun z => by omega⟩
    · rw [if_neg c1, if_pos i00]
      have e2 : hd2 A q1 = ((q1.2.1 : Int), 0, 0, 0) := by unfold hd2; rw [if_neg c1]
      rw [e2]
      simp only [mX7_wrongAt_22, TT_g h 2 (by omega) b2.2, Option.bind_some]
      rw [if_neg (by omega)]
      exact ⟨g1, rfl, b2.1, fun z => by omega⟩
  · have a2' : mX7_reads n (TT B s (updV g 2 (.int (0 : Int32)))) (B + 1) (64 : Int32) = some (0, TT B s (updV (updV g 2 (.int (0 : Int32))) 2 (.int (iI (sk A 0 : Nat))))) := a2
    simp only [a2', Option.bind_some, if_true]
    have e1 : hdF A = ((sk A 0 : Int), 0, 0, 0) := by unfold hdF hd1; rw [if_neg a1]
    rw [e1]
    have G1 := G0.go (sk A 0)
    simp only [mX7_wrongAt_22, TT_g h 2 (by omega) G1.2, Option.bind_some]
    rw [if_neg (by omega)]
    exact ⟨_, rfl, G1.1, fun z => by omega⟩
theorem x_fault {σ : Sg} (h : St B wa σ A) (hn : 100000 ≤ n) : ∃ σ', mX9_fault n σ B = some (iI (flt A), σ') ∧ St B wa σ' A ∧ Fr B σ σ' := by
  obtain ⟨g', k1, k2, -⟩ := x_wrongAt (n := n) (g := σ.2.2 (B + 1)) h (fun _ _ => rfl) hn
  rw [TT_id] at k1
  obtain ⟨S1, F1⟩ := TT_St h k2
  refine ⟨_, ?_, S1, F1⟩
  unfold mX9_fault
  simp only [h.1.o, Option.bind_some, h.1.r3, h.1.qwide, h.1.qdeep, k1]
end X76
