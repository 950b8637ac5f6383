/-! ===== the reference: moves ===== -/
/-- a place where the moves of a group end -/
def stpA (A : AS) (j : Nat) : Prop := cb A j ≠ 32 ∧ ¬ isMv (cb A j) ∧ ¬ isRp (cb A j) ∧ cb A j ≠ 40
def MvR (A : AS) (w : Bool) (dp i : Nat) (u : Pu) (f' : Nat → Int) (e' : Nat → Int → Int) : Prop :=
  (∃ er : Nat, f' 7 = er ∧ au A (tn A - i) i dp false false = er) ∨ (f' 7 = -1 ∧ ∃ (j : Nat) (L : List Nat), f' 6 = j ∧ j ≤ tn A ∧ stpA A j ∧ au A (tn A - i) i dp false false = au A (tn A - j) j dp true false ∧ (∀ L' j', Sec A j 1 L' j' → Sec A i 1 (L ++ L') j') ∧ (w = true → PR f' e' (pfo A L u)))
def MvS (M n : Nat) (σ : Sg) (A : AS) (w : Bool) (d dp : Nat) : Prop := ∀ (i : Nat) (u : Pu) (f : Nat → Int) (e : Nat → Int → Int), MH A f e → f 6 = i → f 7 = -1 → f 8 = dp → i ≤ tn A → PWf A u → (w = true → PR f e u) → ∃ f' e', mX10_moves n d (MW M σ f e) M (bB w) = some (MW M σ f' e') ∧ MH A f' e' ∧ f' 8 = dp ∧ MvR A w dp i u f' e'
def MoR (A : AS) (w : Bool) (dp i t : Nat) (u : Pu) (f' : Nat → Int) (e' : Nat → Int → Int) : Prop :=
  (∃ er : Nat, f' 7 = er ∧ ∀ sm rp, (rp = true ∨ isMv (cb A i) ∨ cb A i = 40) → au A (tn A - i) i dp sm rp = er) ∨ (f' 7 = -1 ∧ ∃ (i' : Nat) (L : List Nat), f' 6 = i' ∧ i < i' ∧ i' ≤ tn A ∧ (∀ sm rp, au A (tn A - i) i dp sm rp = au A (tn A - i') i' dp true false) ∧ (∀ L' j', Sec A i' 1 L' j' → Sec A i t (L ++ L') j') ∧ (w = true → PR f' e' (pfo A L u)))
def MoS (M n : Nat) (σ : Sg) (A : AS) (w : Bool) (d dp : Nat) : Prop := ∀ (i t : Nat) (u : Pu) (f : Nat → Int) (e : Nat → Int → Int), MH A f e → f 6 = i → f 7 = -1 → f 8 = dp → i ≤ tn A → cb A i ≠ 32 → 1 ≤ t ∧ t ≤ 9 → PWf A u → (w = true → PR f e u) → ∃ f' e', mX10_move n d (MW M σ f e) M (iI (rb A i)) (iI (t : Int)) (bB w) = some (MW M σ f' e') ∧ MH A f' e' ∧ f' 8 = dp ∧ MoR A w dp i t u f' e'
section X79
variable {M n : Nat} {σ : Sg} {A : AS} {w : Bool} {d dp : Nat}
theorem au_in {i : Nat} (h : i < tn A) (o : Nat) (s r : Bool) : au A (tn A - i) i o s r = if isMv (cb A i) then au A (tn A - (i + 1)) (i + 1) o true false
    else if isRp (cb A i) ∧ r = false then au A (tn A - (i + 1)) (i + 1) o s true
    else if cb A i = 40 ∧ o < 3 then au A (tn A - (i + 1)) (i + 1) (o + 1) false false
    else if cb A i = 41 ∧ 0 < o ∧ s = true ∧ r = false then au A (tn A - (i + 1)) (i + 1) (o - 1) s r
    else if cb A i = 32 then au A (tn A - (i + 1)) (i + 1) o s r
    else i := by
  rw [show tn A - i = (tn A - (i + 1)) + 1 by omega, au_s]
theorem au_out (o : Nat) (s r : Bool) : au A (tn A - tn A) (tn A) o s r = if o = 0 ∧ s = true ∧ r = false then -1 else (tn A : Int) := by
  rw [show tn A - tn A = 0 by omega]; rfl
theorem au_bad {i o : Nat} {s r : Bool} (hi : i ≤ tn A) (h1 : cb A i ≠ 32) (h2 : ¬ isMv (cb A i)) (h3 : ¬ (isRp (cb A i) ∧ r = false)) (h4 : ¬ (cb A i = 40 ∧ o < 3)) (h5 : ¬ (o = 0 ∧ s = true ∧ r = false ∧ i = tn A)) (h6 : ¬ (cb A i = 41 ∧ 0 < o ∧ s = true ∧ r = false)) : au A (tn A - i) i o s r = i := by
  rcases Nat.lt_or_ge i (tn A) with z | z
  · rw [au_in z, if_neg h2, if_neg h3, if_neg h4, if_neg h6, if_neg h1]
  · have e : i = tn A := by omega
    subst e
    rw [au_out, if_neg (fun q => h5 ⟨q.1, q.2.1, q.2.2, rfl⟩)]
theorem m_steps (hS : Msh M σ) (hA : Wf A) {i t : Nat} {u : Pu} {f : Nat → Int} {e : Nat → Int → Int} {rv : Sg → Nat → Int32 → Option Sg} {rm : Sg → Nat → Int32 → Int32 → Int32 → Option Sg} (h : MH A f e) (hc : isMv (cb A i)) (ht : 1 ≤ t ∧ t ≤ 9) (hu : PWf A u) (hP : w = true → PR f e u) (hn : 100000 ≤ n) : ∃ f' e', loopM (mX10_move_L20 n rv rm M (iI (cb A i : Nat)) (iI (t : Int)) (bB w)) n (MW M σ f e, iI 0) = some (MW M σ f' e') ∧ MH A f' e' ∧ f' 6 = f 6 ∧ f' 7 = f 7 ∧ f' 8 = f 8 ∧ (w = true → PR f' e' (pfo A (List.replicate t (cb A i)) u)) := by
  have W := mAll hS
  cases hw : w with
  | false =>
    refine ⟨f, e, ?_, h, rfl, rfl, rfl, fun z => by cases z⟩
    obtain ⟨m, rfl⟩ : ∃ m, n = m + 1 := ⟨n - 1, by omega⟩
    simp (disch := omega) only [loopM, mX10_move_L20, iI_le, bB_f, iL]
    rw [if_neg (by omega)]
    simp only [if_true]
  | true =>
    have key := loop_inv (body := mX10_move_L20 n rv rm M (iI (cb A i : Nat)) (iI (t : Int)) (bB true)) (fun c => ∃ (k : Nat) (f1 : Nat → Int) (e1 : Nat → Int → Int), c = (MW M σ f1 e1, iI (k : Int)) ∧ k ≤ t ∧ MH A f1 e1 ∧ f1 6 = f 6 ∧ f1 7 = f 7 ∧ f1 8 = f 8 ∧ PR f1 e1 (pfo A (List.replicate k (cb A i)) u)) (fun c => t - c.2.toNatClampNeg)
      (fun s => ∃ f' e', s = MW M σ f' e' ∧ MH A f' e' ∧ f' 6 = f 6 ∧ f' 7 = f 7 ∧ f' 8 = f 8 ∧ PR f' e' (pfo A (List.replicate t (cb A i)) u)) ?_ n (MW M σ f e, iI 0) ⟨0, f, e, rfl, by omega, h, rfl, rfl, rfl, hP hw⟩ (by show t - _ < n; omega)
    · obtain ⟨s, k1, f', e', rfl, k2, k3, k4, k5, k6⟩ := key
      exact ⟨f', e', k1, k2, k3, k4, k5, fun _ => k6⟩
    · rintro _ ⟨k, f1, e1, rfl, hk, h1, a6, a7, a8, p1⟩
      by_cases ck : k = t
      · subst ck
        refine Or.inr ⟨_, ?_, f1, e1, rfl, h1, a6, a7, a8, p1⟩
        simp (disch := omega) only [mX10_move_L20, iI_le]
        rw [if_pos (by omega)]
      · obtain ⟨f2, e2, q1, q2, q3, q4, q5, q6⟩ := m_step (n := n) hS h1 hA p1 (pfo_wf hA _ _ hu) hc
        refine Or.inl ⟨(MW M σ f2 e2, iI ((k : Int) + 1)), ?_, ⟨k + 1, f2, e2, rfl, by omega, q2, by omega, by omega, by omega, ?_⟩, ?_⟩
        · simp (disch := omega) only [mX10_move_L20, iI_le, q1, Option.bind_some, iI_s1, bB_t]
          rw [if_neg (by omega), if_neg i10]
        · rw [List.replicate_succ', pfo_app]
          exact q3
        · show t - (iI ((k : Int) + 1)).toNatClampNeg < t - (iI (k : Int)).toNatClampNeg
          rw [iI_clamp (by omega) (by omega), iI_clamp (by omega) (by omega)]
          omega
/-- what the passes through a group leave -/
def GrR (A : AS) (w : Bool) (dp i k : Nat) (u : Pu) (f' : Nat → Int) (e' : Nat → Int → Int) : Prop :=
  (∃ er : Nat, f' 7 = er ∧ au A (tn A - i) i (dp + 1) false false = er) ∨ (f' 7 = -1 ∧ ∃ (j : Nat) (L : List Nat), f' 6 = (j : Int) + 1 ∧ j < tn A ∧ cb A j = 41 ∧ Sec A i 1 L j ∧ au A (tn A - i) i (dp + 1) false false = au A (tn A - (j + 1)) (j + 1) dp true false ∧ (w = true → PR f' e' (pfo A (List.replicate k L).flatten u)))
theorem m_pass (hS : Msh M σ) (hA : Wf A) (hd : MvS M n σ A w d (dp + 1)) {i k t : Nat} {u : Pu} {f : Nat → Int} {e : Nat → Int → Int} {rm : Sg → Nat → Int32 → Int32 → Int32 → Option Sg} (h : MH A f e) (h7 : f 7 = -1) (h8 : f 8 = ((dp + 1 : Nat) : Int)) (hi : i ≤ tn A) (hk : k < t) (ht : t ≤ 9) (hu : PWf A u) (hP : w = true → PR f e u) (hn : 100000 ≤ n) : ∃ f' e', (mX10_move_L90 n (mX10_moves n d) rm M (iI (t : Int)) (bB w) (iI (i : Int)) (MW M σ f e, iI (k : Int)) = some (.inr (MW M σ f' e')) ∧ (w = true → f' 7 = -1 → f' 11 = 60) ∨ w = true ∧ mX10_move_L90 n (mX10_moves n d) rm M (iI (t : Int)) (bB w) (iI (i : Int)) (MW M σ f e, iI (k : Int)) = some (.inl (MW M σ f' e', iI ((k : Int) + 1)))) ∧ MH A f' e' ∧ f' 8 = ((dp + 1 : Nat) : Int) ∧ GrR A w dp i 1 u f' e' := by
  have W := mAll hS
  have t160 := hA.2.1.1
  have u6 : updZ f 6 (i : Int) 6 = (i : Int) := updZ_same _ _ _
  have u7 : updZ f 6 (i : Int) 7 = -1 := by rw [updZ_ne _ _ (by omega)]; exact h7
  have u8 : updZ f 6 (i : Int) 8 = ((dp + 1 : Nat) : Int) := by rw [updZ_ne _ _ (by omega)]; exact h8
  have uP : w = true → PR (updZ f 6 (i : Int)) e u := fun z => by
    obtain ⟨p1, p2, p3, p4, p5, p6⟩ := hP z
    exact ⟨by rw [updZ_ne _ _ (by omega)]; exact p1, by rw [updZ_ne _ _ (by omega)]; exact p2, by rw [updZ_ne _ _ (by omega)]; exact p3, by rw [updZ_ne _ _ (by omega)]; exact p4, p5, p6⟩
  obtain ⟨f1, e1, m1, m2, m3, m4⟩ := hd i u _ e (h.sc (Sc.f 6 _ (by omega))) u6 u7 u8 hi hu uP
  have fin : ∀ (f2 : Nat → Int) (e2 : Nat → Int → Int) (z : Int), f2 6 = z → MH A f2 e2 → f2 8 = ((dp + 1 : Nat) : Int) → (f2 7 = -1 → w = true → ∃ l : Nat, f2 11 = l ∧ l ≤ 60) → GrR A w dp i 1 u (updZ f2 6 (z + 1)) e2 → mX10_move_L90 n (mX10_moves n d) rm M (iI (t : Int)) (bB w) (iI (i : Int)) (MW M σ f e, iI (k : Int)) = mX10_move_136 n (mX10_moves n d) rm (MW M σ f2 e2) M (iI (t : Int)) (bB w) (iI (i : Int)) (iI (k : Int)) → ∃ f' e', (mX10_move_L90 n (mX10_moves n d) rm M (iI (t : Int)) (bB w) (iI (i : Int)) (MW M σ f e, iI (k : Int)) = some (.inr (MW M σ f' e')) ∧ (w = true → f' 7 = -1 → f' 11 = 60) ∨ w = true ∧ mX10_move_L90 n (mX10_moves n d) rm M (iI (t : Int)) (bB w) (iI (i : Int)) (MW M σ f e, iI (k : Int)) = some (.inl (MW M σ f' e', iI ((k : Int) + 1)))) ∧ MH A f' e' ∧ f' 8 = ((dp + 1 : Nat) : Int) ∧ GrR A w dp i 1 u f' e' := by
    intro f2 e2 z z6 g1 g2 g3 g4 eq
    refine ⟨updZ f2 6 (z + 1), e2, ?_, g1.sc (Sc.f 6 _ (by omega)), by rw [updZ_ne _ _ (by omega)]; exact g2, g4⟩
    rw [eq]
    have n11 : updZ f2 6 (z + 1) 11 = f2 11 := updZ_ne _ _ (by omega)
    have n7 : updZ f2 6 (z + 1) 7 = f2 7 := updZ_ne _ _ (by omega)
    unfold mX10_move_136
    simp only [W, Option.bind_some, z6, iI_s1, n11]
    cases hw : w with
    | false =>
      rw [if_pos bB_f]
      exact Or.inl ⟨rfl, fun q => by cases q⟩
    | true =>
      rw [if_neg (by rw [bB_t]; exact i10)]
      by_cases c : iI (f2 11) < (60 : Int32)
      · rw [if_pos c]
        exact Or.inr ⟨rfl, rfl⟩
      · rw [if_neg c]
        refine Or.inl ⟨rfl, fun _ q => ?_⟩
        obtain ⟨l, l1, l2⟩ := g3 (by rw [← n7]; exact q) hw
        rw [l1, iL, iI_lt (by omega) (by omega)] at c
        rw [l1]
        omega
  have hL : mX10_move_L90 n (mX10_moves n d) rm M (iI (t : Int)) (bB w) (iI (i : Int)) (MW M σ f e, iI (k : Int)) = if iI (f1 7) = (-1 : Int32) then (mX10_look n (MW M σ f1 e1) M).bind fun q => if q.1 = (41 : Int32) then mX10_move_136 n (mX10_moves n d) rm q.2 M (iI (t : Int)) (bB w) (iI (i : Int)) (iI (k : Int)) else (mX10_bad n q.2 M).bind fun s21 => mX10_move_136 n (mX10_moves n d) rm s21 M (iI (t : Int)) (bB w) (iI (i : Int)) (iI (k : Int)) else mX10_move_136 n (mX10_moves n d) rm (MW M σ f1 e1) M (iI (t : Int)) (bB w) (iI (i : Int)) (iI (k : Int)) := by
    simp only [mX10_move_L90, W, Option.bind_some, h7, m1]
    rw [if_neg (by rw [iI_le (by omega) (by omega)]; omega), if_pos (show iI (-1) = (-1 : Int32) from rfl)]
  rcases m4 with ⟨er, r1, r2⟩ | ⟨r0, j, L, r1, r2, r3, r4, r5, r6⟩
  · have ner : ¬ iI (f1 7) = (-1 : Int32) := by
      have := au_R (A := A) (tn A - i) i (dp + 1) false false
      rw [r1, iI_m1, iI_eq (by omega) (by omega)]
      omega
    rw [if_neg ner] at hL
    exact fin f1 e1 (f1 6) rfl m2 m3 (fun q => by omega) (Or.inl ⟨er, by rw [updZ_ne _ _ (by omega)]; exact r1, r2⟩) hL
  · rw [if_pos (by rw [r0]; rfl)] at hL
    have skj : sk A j = j := ((sk_blk j).unique (Blk.here r3.1))
    have lk := m_look1 (n := n) hS m2 hA r1 (by omega) hn
    rw [skj, updZ_id r1] at lk
    rw [lk] at hL
    simp only [Option.bind_some] at hL
    have rj := rb_or hA j
    have cap : w = true → ∃ l : Nat, f1 11 = l ∧ l ≤ 60 := fun z => ⟨_, (r6 z).1, (pfo_wf hA L u hu).1⟩
    by_cases c : cb A j = 41
    · rw [if_pos (by rw [show rb A j = 41 by omega]; rfl)] at hL
      have jl := cb_in (A := A) (i := j) (by omega)
      have sj : Sec A i 1 (L ++ []) j := r5 [] j (Sec.stop (Or.inr c))
      rw [List.append_nil] at sj
      refine fin f1 e1 j r1 m2 m3 (fun _ z => cap z) (Or.inr ⟨by rw [updZ_ne _ _ (by omega)]; exact r0, j, L, updZ_same _ _ _, jl, c, sj, ?_, fun z => ?_⟩) hL
      · rw [r4, au_in jl, if_neg r3.2.1, if_neg (fun q => r3.2.2.1 q.1), if_neg (fun q => r3.2.2.2 q.1), if_pos ⟨c, by omega, rfl, rfl⟩]
        rfl
      · have e1 : (List.replicate 1 L).flatten = L := by simp
        rw [e1]
        obtain ⟨p1, p2, p3, p4, p5, p6⟩ := r6 z
        exact ⟨by rw [updZ_ne _ _ (by omega)]; exact p1, by rw [updZ_ne _ _ (by omega)]; exact p2, by rw [updZ_ne _ _ (by omega)]; exact p3, by rw [updZ_ne _ _ (by omega)]; exact p4, p5, p6⟩
    · rw [if_neg (by rw [iL, iI_eq (by omega) (by omega)]; omega), m_bad hS r0 r1 (RI.sm (by omega) (by omega)), if_pos rfl] at hL
      simp only [Option.bind_some] at hL
      refine fin _ e1 j (by rw [updZ_ne _ _ (by omega)]; exact r1) (m2.sc (Sc.f 7 _ (by omega))) (by rw [updZ_ne _ _ (by omega)]; exact m3) (fun q => by rw [updZ_same] at q; omega) (Or.inl ⟨j, by rw [updZ_ne _ _ (by omega), updZ_same], ?_⟩) hL
      rw [r4]
      exact au_bad r2 r3.1 r3.2.1 (fun q => r3.2.2.1 q.1) (fun q => r3.2.2.2 q.1) (fun q => by omega) (fun q => c q.1)
theorem m_group (hS : Msh M σ) (hA : Wf A) (hd : MvS M n σ A w d (dp + 1)) {i t : Nat} {u : Pu} {f : Nat → Int} {e : Nat → Int → Int} {rm : Sg → Nat → Int32 → Int32 → Int32 → Option Sg} (h : MH A f e) (h7 : f 7 = -1) (h8 : f 8 = ((dp + 1 : Nat) : Int)) (hi : i ≤ tn A) (ht : 1 ≤ t ∧ t ≤ 9) (hu : PWf A u) (hP : w = true → PR f e u) (hn : 100000 ≤ n) : ∃ f' e', loopM (mX10_move_L90 n (mX10_moves n d) rm M (iI (t : Int)) (bB w) (iI (i : Int))) n (MW M σ f e, iI 0) = some (MW M σ f' e') ∧ MH A f' e' ∧ f' 8 = ((dp + 1 : Nat) : Int) ∧ GrR A w dp i t u f' e' := by
  have W := mAll hS
  have key := loop_inv (body := mX10_move_L90 n (mX10_moves n d) rm M (iI (t : Int)) (bB w) (iI (i : Int))) (fun c => ∃ (k : Nat) (f1 : Nat → Int) (e1 : Nat → Int → Int), c = (MW M σ f1 e1, iI (k : Int)) ∧ k ≤ t ∧ MH A f1 e1 ∧ f1 8 = ((dp + 1 : Nat) : Int) ∧ ((k = 0 ∧ f1 7 = -1 ∧ (w = true → PR f1 e1 u)) ∨ (0 < k ∧ w = true ∧ GrR A w dp i k u f1 e1))) (fun c => t - c.2.toNatClampNeg)
    (fun s => ∃ f' e', s = MW M σ f' e' ∧ MH A f' e' ∧ f' 8 = ((dp + 1 : Nat) : Int) ∧ GrR A w dp i t u f' e') ?_ n (MW M σ f e, iI 0) ⟨0, f, e, rfl, by omega, h, h8, Or.inl ⟨rfl, h7, hP⟩⟩ (by show t - _ < n; omega)
  · obtain ⟨s, k1, f', e', rfl, k2, k3, k4⟩ := key
    exact ⟨f', e', k1, k2, k3, k4⟩
  · rintro _ ⟨k, f1, e1, rfl, hk, g1, g2, g3⟩
    by_cases ck : k = t
    · subst ck
      rcases g3 with ⟨g3, -⟩ | ⟨-, -, g3⟩
      · omega
      · refine Or.inr ⟨_, ?_, f1, e1, rfl, g1, g2, g3⟩
        simp (disch := omega) only [mX10_move_L90, iI_le]
        rw [if_pos (by omega)]
    · have mu : t - (iI ((k : Int) + 1)).toNatClampNeg < t - (iI (k : Int)).toNatClampNeg := by
        rw [iI_clamp (by omega) (by omega), iI_clamp (by omega) (by omega)]
        omega
      rcases g3 with ⟨k0, g7, gP⟩ | ⟨k0, gw, ⟨er, r1, r2⟩ | ⟨r0, j, L, r1, r2, r3, r4, r5, r6⟩⟩
      · subst k0
        obtain ⟨f2, e2, p1, p2, p3, p4⟩ := m_pass (n := n) (rm := rm) (t := t) (k := 0) hS hA hd g1 g7 g2 hi (by omega) ht.2 hu gP hn
        rcases p1 with ⟨p1, p5⟩ | ⟨pw, p1⟩
        · refine Or.inr ⟨_, p1, f2, e2, rfl, p2, p3, ?_⟩
          rcases p4 with p4 | ⟨r0, j, L, r1, r2, r3, r4, r5, r6⟩
          · exact Or.inl p4
          · refine Or.inr ⟨r0, j, L, r1, r2, r3, r4, r5, fun z => ?_⟩
            have a := r6 z
            have e1' : (List.replicate 1 L).flatten = L := by simp
            rw [e1'] at a
            have l60 : (pfo A L u).1 = 60 := by have := p5 z r0; rw [a.1] at this; omega
            have sp : (List.replicate t L).flatten = L ++ (List.replicate (t - 1) L).flatten := by
              conv => lhs; rw [show t = (t - 1) + 1 by omega, List.replicate_succ]
              rfl
            rw [sp, pfo_app, pfo_60 l60]
            exact a
        · exact Or.inl ⟨_, p1, ⟨1, f2, e2, rfl, ht.1, p2, p3, Or.inr ⟨by omega, pw, p4⟩⟩, mu⟩
      · refine Or.inr ⟨_, ?_, f1, e1, rfl, g1, g2, Or.inl ⟨er, r1, r2⟩⟩
        have := au_R (A := A) (tn A - i) i (dp + 1) false false
        have t160 := hA.2.1.1
        simp (disch := omega) only [mX10_move_L90, iI_le, W, Option.bind_some, r1]
        rw [if_neg (by omega), if_neg (by rw [iI_m1, iI_eq (by omega) (by omega)]; omega)]
      · have a := r6 gw
        obtain ⟨f2, e2, p1, p2, p3, p4⟩ := m_pass (n := n) (rm := rm) (t := t) (k := k) (u := pfo A (List.replicate k L).flatten u) hS hA hd g1 r0 g2 hi (by omega) ht.2 (pfo_wf hA _ _ hu) r6 hn
        have sp1 : (List.replicate (k + 1) L).flatten = (List.replicate k L).flatten ++ L := by
          rw [List.replicate_succ', List.flatten_append]
          simp
        have nxG : GrR A w dp i (k + 1) u f2 e2 := by
          rcases p4 with p4 | ⟨s0, j2, L2, s1, s2, s3, s4, s5, s6⟩
          · exact Or.inl p4
          · obtain ⟨eL, ej⟩ := r4.unique s4
            subst eL ej
            refine Or.inr ⟨s0, j, L, s1, s2, s3, s4, s5, fun z => ?_⟩
            have b := s6 z
            have e1' : (List.replicate 1 L).flatten = L := by simp
            rw [e1'] at b
            rw [sp1, pfo_app]
            exact b
        rcases p1 with ⟨p1, p5⟩ | ⟨pw, p1⟩
        · refine Or.inr ⟨_, p1, f2, e2, rfl, p2, p3, ?_⟩
          rcases nxG with q | ⟨s0, j2, L2, s1, s2, s3, s4, s5, s6⟩
          · exact Or.inl q
          · refine Or.inr ⟨s0, j2, L2, s1, s2, s3, s4, s5, fun z => ?_⟩
            have b := s6 z
            have l60 : (pfo A (List.replicate (k + 1) L2).flatten u).1 = 60 := by have := p5 z s0; rw [b.1] at this; omega
            have sp : (List.replicate t L2).flatten = (List.replicate (k + 1) L2).flatten ++ (List.replicate (t - (k + 1)) L2).flatten := by
              rw [← List.flatten_append, List.replicate_append_replicate]
              rw [show k + 1 + (t - (k + 1)) = t by omega]
            rw [sp, pfo_app, pfo_60 l60]
            exact b
        · exact Or.inl ⟨_, p1, ⟨k + 1, f2, e2, rfl, by omega, p2, p3, Or.inr ⟨by omega, pw, nxG⟩⟩, mu⟩
theorem m_move (hS : Msh M σ) (hA : Wf A) (hdp : dp ≤ 3) (hd : dp < 3 → MvS M n σ A w d (dp + 1)) (hn : 100000 ≤ n) : MoS M n σ A w (d + 1) dp := by
  have W := mAll hS
  have t160 := hA.2.1.1
  intro i t u f e h h6 h7 h8 hi hb ht hu hP
  have rj := rb_or hA i
  have eq : mX10_move n (d + 1) (MW M σ f e) M (iI (rb A i)) (iI (t : Int)) (bB w) = eX10_move n (mX10_moves n d) (mX10_move n d) (MW M σ f e) M (iI (rb A i)) (iI (t : Int)) (bB w) := rfl
  rw [eq]
  unfold eX10_move
  simp only [W, Option.bind_some, m_isStep hA i, iL, bI_0]
  have bad : ∃ f' e', mX10_move_56 n (mX10_moves n d) (mX10_move n d) (MW M σ f e) M = some (MW M σ f' e') ∧ MH A f' e' ∧ f' 8 = dp ∧ f' 7 = i := by
    refine ⟨updZ f 7 (i : Int), e, ?_, h.sc (Sc.f 7 _ (by omega)), by rw [updZ_ne _ _ (by omega)]; exact h8, updZ_same _ _ _⟩
    simp only [mX10_move_56, m_bad hS h7 h6 (RI.sm (by omega) (by omega)), if_true, Option.bind_some]
  by_cases c1 : isMv (cb A i)
  · rw [if_neg (fun q => q c1)]
    have il := cb_in (A := A) (i := i) (by omega)
    have er : rb A i = (cb A i : Nat) := by omega
    have p6 : updZ f 6 ((i : Int) + 1) 6 = (i : Int) + 1 := updZ_same _ _ _
    have uP : w = true → PR (updZ f 6 ((i : Int) + 1)) e u := fun z => by
      obtain ⟨p1, p2, p3, p4, p5, p6⟩ := hP z
      exact ⟨by rw [updZ_ne _ _ (by omega)]; exact p1, by rw [updZ_ne _ _ (by omega)]; exact p2, by rw [updZ_ne _ _ (by omega)]; exact p3, by rw [updZ_ne _ _ (by omega)]; exact p4, p5, p6⟩
    obtain ⟨f', e', k1, k2, k3, k4, k5, k6⟩ := m_steps (n := n) (i := i) (rv := mX10_moves n d) (rm := mX10_move n d) hS hA (h.sc (Sc.f 6 ((i : Int) + 1) (by omega))) c1 ht hu uP hn
    simp only [h6, iI_add, er, k1, Option.bind_some, W]
    refine ⟨f', e', rfl, k2, by rw [k5, updZ_ne _ _ (by omega)]; exact h8, Or.inr ⟨by rw [k4, updZ_ne _ _ (by omega)]; exact h7, i + 1, _, by rw [k3, p6]; rfl, by omega, by omega, fun sm rp => ?_, fun L' j' hs => Sec.mv c1 hs, k6⟩⟩
    rw [au_in il, if_pos c1]
  · rw [if_pos c1]
    by_cases c2 : cb A i = 40
    · rw [if_pos (by rw [show rb A i = 40 by omega])]
      have il := cb_in (A := A) (i := i) (by omega)
      simp (disch := omega) only [h8, iI_eq]
      by_cases c3 : dp = 3
      · rw [if_pos (by omega)]
        obtain ⟨f', e', b1, b2, b3, b4⟩ := bad
        refine ⟨f', e', b1, b2, b3, Or.inl ⟨i, b4, fun sm rp _ => au_bad hi hb c1 (fun q => by omega) (fun q => by omega) (fun q => by omega) (fun q => by omega)⟩⟩
      · rw [if_neg (by omega)]
        have n6 : updZ f 8 ((dp : Int) + 1) 6 = (i : Int) := by rw [updZ_ne _ _ (by omega)]; exact h6
        have n6' : updZ (updZ f 8 ((dp : Int) + 1)) 6 ((i : Int) + 1) 6 = (i : Int) + 1 := updZ_same _ _ _
        have uP : w = true → PR (updZ (updZ f 8 ((dp : Int) + 1)) 6 ((i : Int) + 1)) e u := fun z => by
          obtain ⟨p1, p2, p3, p4, p5, p6⟩ := hP z
          exact ⟨by rw [updZ_ne _ _ (by omega), updZ_ne _ _ (by omega)]; exact p1, by rw [updZ_ne _ _ (by omega), updZ_ne _ _ (by omega)]; exact p2, by rw [updZ_ne _ _ (by omega), updZ_ne _ _ (by omega)]; exact p3, by rw [updZ_ne _ _ (by omega), updZ_ne _ _ (by omega)]; exact p4, p5, p6⟩
        obtain ⟨f', e', k1, k2, k3, k4⟩ := m_group (n := n) (i := i + 1) (t := t) (rm := mX10_move n d) hS hA (hd (by omega)) ((h.sc (Sc.f 8 ((dp : Int) + 1) (by omega))).sc (Sc.f 6 ((i : Int) + 1) (by omega))) (by rw [updZ_ne _ _ (by omega), updZ_ne _ _ (by omega)]; exact h7) (by rw [updZ_ne _ _ (by omega), updZ_same]; rfl) (by omega) ht hu uP hn
        have k1' : loopM (mX10_move_L90 n (mX10_moves n d) (mX10_move n d) M (iI (t : Int)) (bB w) (iI ((i : Int) + 1))) n (MW M σ (updZ (updZ f 8 ((dp : Int) + 1)) 6 ((i : Int) + 1)) e, iI 0) = some (MW M σ f' e') := k1
        simp only [W, Option.bind_some, h8, iI_add, n6, n6', k1', mX10_move_168, k3, iI_sub, iL]
        have e8 : updZ f' 8 (((dp + 1 : Nat) : Int) - 1) 8 = (dp : Int) := by rw [updZ_same]; omega
        refine ⟨_, e', rfl, k2.sc (Sc.f 8 _ (by omega)), e8, ?_⟩
        rcases k4 with ⟨er, r1, r2⟩ | ⟨r0, j, L, r1, r2, r3, r4, r5, r6⟩
        · refine Or.inl ⟨er, by rw [updZ_ne _ _ (by omega)]; exact r1, fun sm rp _ => ?_⟩
          rw [au_in il, if_neg c1, if_neg (fun q => by omega), if_pos ⟨c2, by omega⟩]
          exact r2
        · refine Or.inr ⟨by rw [updZ_ne _ _ (by omega)]; exact r0, j + 1, (List.replicate t L).flatten, by rw [updZ_ne _ _ (by omega)]; exact r1, ?_, by omega, fun sm rp => ?_, fun L' j' hs => Sec.grp c2 r4 hs, fun z => ?_⟩
          · have : i + 1 ≤ j := by
              obtain ⟨fu, hfu⟩ := r4
              have key : ∀ fu a t L j, sec A fu a t = some (L, j) → a ≤ j := by
                intro fu
                induction fu with
                | zero => intro a t L j q; cases q
                | succ fu ih =>
                  intro a t L j q
                  rw [sec_s] at q
                  split at q
                  · cases q; exact Nat.le_refl _
                  · split at q
                    · have := ih _ _ _ _ q; omega
                    · split at q
                      · have := ih _ _ _ _ q; omega
                      · split at q
                        · cases h1 : sec A fu (a + 1) 1 with
                          | none => rw [h1] at q; cases q
                          | some p =>
                            rw [h1] at q
                            simp only [Option.bind_some] at q
                            cases h2 : sec A fu (p.2 + 1) 1 with
                            | none => rw [h2] at q; cases q
                            | some p2 =>
                              rw [h2] at q
                              cases q
                              have x1 := ih _ _ p.1 p.2 h1
                              have x2 := ih _ _ p2.1 p2.2 h2
                              omega
                        · cases h1 : sec A fu (a + 1) 1 with
                          | none => rw [h1] at q; cases q
                          | some p =>
                            rw [h1] at q
                            cases q
                            have x1 := ih _ _ p.1 p.2 h1
                            omega
              exact key fu _ _ _ _ hfu
            omega
          · rw [au_in il, if_neg c1, if_neg (fun q => by omega), if_pos ⟨c2, by omega⟩]
            exact r5
          · obtain ⟨p1, p2, p3, p4, p5, p6⟩ := r6 z
            exact ⟨by rw [updZ_ne _ _ (by omega)]; exact p1, by rw [updZ_ne _ _ (by omega)]; exact p2, by rw [updZ_ne _ _ (by omega)]; exact p3, by rw [updZ_ne _ _ (by omega)]; exact p4, p5, p6⟩
    · rw [if_neg (by rw [iI_eq (by omega) (by omega)]; omega)]
      obtain ⟨f', e', b1, b2, b3, b4⟩ := bad
      refine ⟨f', e', b1, b2, b3, Or.inl ⟨i, b4, fun sm rp q => ?_⟩⟩
      rcases q with q | q | q
      · subst q
        exact au_bad hi hb c1 (fun q => by cases q.2) (fun q => c2 q.1) (fun q => by cases q.2.2.1) (fun q => by cases q.2.2.2)
      · exact absurd q c1
      · exact absurd q c2
end X79
