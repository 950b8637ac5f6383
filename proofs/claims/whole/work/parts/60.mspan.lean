/-! ===== the reference: span, one, meets, settle ===== -/
section X60
variable {M n : Nat} {σ : Sg} {A : AS} {f : Nat → Int} {e : Nat → Int → Int} {X : Nat → Nat → Int}
/-- a net of nodes as a net of points -/
abbrev ZX (X : Nat → Nat → Int) : Nat → Nat → Int := fun i j => X (nd i) (nd j)
theorem spn_Z (X : Nat → Nat → Int) (t : Nat) : spn (ZX X) (t + 1) = spn (ZX X) t + (-X t 8 - X 8 t) := rfl
theorem spn_ZR (hX : Sm A X) : ∀ t : Nat, t ≤ wn A → -4000 * (t : Int) ≤ spn (ZX X) t ∧ spn (ZX X) t ≤ 4000 * t
  | 0, _ => by show -4000 * ((0 : Nat) : Int) ≤ 0 ∧ (0 : Int) ≤ 4000 * ((0 : Nat) : Int); omega
  | t + 1, h => by
    have ih := spn_ZR hX t (by omega)
    have a := hX t 8 (Or.inl (by omega)) (Or.inr rfl)
    have b := hX 8 t (Or.inr rfl) (Or.inl (by omega))
    rw [spn_Z]
    omega
theorem m_spanNow (hS : Msh M σ) (h : MH A f e) (hA : Wf A) (hX : Sm A X) (hn : 100000 ≤ n) : mX10_spanNow n (MX M σ f e X) M = some (iI (spn (ZX X) (wn A)), MX M σ f e X) := by
  have W := mAll hS
  have h8 := hA.2.2.1.1
  have L : loopM (mX10_spanNow_L4 n M) n (MX M σ f e X, iI 0, iI 0) = some (MX M σ f e X, iI (spn (ZX X) (wn A))) := by
    have e0 : (MX M σ f e X, iI 0, iI 0) = (fun t : Nat => (MX M σ f e X, iI (spn (ZX X) t), iI (t : Int))) 0 := rfl
    rw [e0]
    refine loop_run (fun t : Nat => (MX M σ f e X, iI (spn (ZX X) t), iI (t : Int))) (wn A) 0 (fun t _ ht => ?_) ?_ n (by omega)
    · simp (disch := omega) only [mX10_spanNow_L4, W, Option.bind_some, h.2.2.1.1, iI_le, m_high hS (show t < 9 by omega), m_low hS (show t < 9 by omega), iI_sub, nm, iI_add, iL]
      rw [if_neg (by omega), spn_Z]; rfl
    · simp (disch := omega) only [Nat.zero_add, mX10_spanNow_L4, W, Option.bind_some, h.2.2.1.1, iI_le]
      rw [if_pos (by omega)]
  unfold mX10_spanNow
  simp only [W, Option.bind_some, iL, L]
theorem m_span (hS : Msh M σ) (h : MH A f e) (hA : Wf A) (x : Int32) (hn : 100000 ≤ n) : ∃ r f' e', mX10_span n (MW M σ f e) M x = some (iI r, MW M σ f' e') ∧ MH A f' e' ∧ Qry A x (-1) (FSpan A) r := by
  have W := mAll hS
  unfold mX10_span
  simp only [W, Option.bind_some, m_isSet hS h hA x, iL, iI_neg, bI_0]
  by_cases c : un x < 2 ^ fn A
  · rw [if_neg (fun q => q c)]
    exact mq_step (n := n) hS h hA x hn (no := -1) (F := FSpan A) c (fun s => rfl) (fun X hX hL => by
      simp only [m_spanNow hS h hA hX hn, Option.bind_some]
      rw [if_neg (by decide)]
      exact ⟨_, f, _, rfl, h.mx X, rfl⟩)
  · rw [if_pos c]
    exact ⟨-1, f, e, rfl, h, Or.inr ⟨Or.inl c, rfl⟩⟩
theorem m_length (hS : Msh M σ) (h : MH A f e) (hA : Wf A) {w : Nat} (hw : w < wn A) : mX10_length n (MW M σ f e) M (iI w) = some (iI (wend (wk A w)), MW M σ f e) := by
  have W := mAll hS
  have h8 := hA.2.2.1.1
  unfold mX10_length
  simp (disch := omega) only [W, Option.bind_some, (h.2.2.1.2 w hw).1, (h.2.2.1.2 w hw).2.1, iI_mul]
  rfl
theorem m_one (hS : Msh M σ) (h : MH A f e) (hA : Wf A) (x : Int32) {a b : Int} (ha : RI a) (hb : RI b) (hn : 100000 ≤ n) : ∃ r f' e', mX10_one n (MW M σ f e) M x (iI a) (iI b) = some (iI r, MW M σ f' e') ∧ MH A f' e' ∧ Two (isW A a ∧ isW A b ∧ a ≠ b) (-1) (Qry A x (-1) (FOne A a b)) r := by
  have W := mAll hS
  have h8 := hA.2.2.1.1
  unfold mX10_one
  simp only [W, Option.bind_some, m_isSet hS h hA x, m_areTwo hS h hA ha hb, iL, iI_neg, bI_0]
  by_cases c : un x < 2 ^ fn A
  · rw [if_neg (fun q => q c)]
    by_cases c1 : isW A a ∧ isW A b ∧ a ≠ b
    · rw [if_neg (fun q => q c1)]
      obtain ⟨v, v1, v2, v3⟩ := isW.nat c1.1
      obtain ⟨w, w1, w2, w3⟩ := isW.nat c1.2.1
      have key := mq_step (n := n) hS h hA x hn (no := -1) (F := FOne A a b) (cont := fun q => if q.1 = iI 0 then some (iI (-1), q.2) else (toR (gV 10 q.2 M 18)).bind fun b10 => (toI (aV 11 q.2 b10 (iI a))).bind fun v11 => (toR (gV 10 q.2 M 18)).bind fun b12 => (toI (aV 11 q.2 b12 (iI b))).bind fun v13 => if v11 = v13 then ((mX10_gapHigh n q.2 M (iI a) (iI b)).bind fun q => (mX10_length n q.2 M (iI a)).bind fun p => if q.1 ≤ p.1 then mX10_one_63 n p.2 (iI 0) M (iI a) (iI b) else mX10_one_63 n p.2 (iI 1) M (iI a) (iI b)) else some (iI 0, q.2)) c (fun s => rfl) (fun X hX hL => by
        have b1 := hX v w (Or.inl v1) (Or.inl w1)
        have b2 := hX w v (Or.inl w1) (Or.inl v1)
        have ea := wend_R (hA.2.2.1.2 v v1)
        have eb := wend_R (hA.2.2.1.2 w w1)
        have wa' := (hA.2.2.1.2 v v1).2.2.1
        have wb' := (hA.2.2.1.2 w w1).2.2.1
        have hx := h.mx X
        have p1 := (hx.2.2.1.2 v v1).2.2.1
        have p2 := (hx.2.2.1.2 w w1).2.2.1
        refine ⟨_, f, _, ?_, hx, rfl⟩
        simp (disch := omega) only [W, Option.bind_some, v2, w2, p1, p2, iI_eq, m_gapHigh hS (show v < 9 by omega) (show w < 9 by omega), m_gapHigh hS (show w < 9 by omega) (show v < 9 by omega), m_length hS hx hA v1, m_length hS hx hA w1, iI_le, mX10_one_63, iL, iI_add]
        rw [if_neg (by omega), show ((v : Int)).toNat = v by omega, show ((w : Int)).toNat = w by omega]
        show _ = some (iI (if wboot (wk A v) = wboot (wk A w) then (if wend (wk A v) < -X w v then 1 else 0) + (if wend (wk A w) < -X v w then 2 else 0) else 0), _)
        by_cases c5 : wboot (wk A v) = wboot (wk A w)
        · rw [if_pos (by omega), if_pos c5]
          by_cases c6 : wend (wk A v) < -X w v
          · rw [if_neg (by omega), if_pos c6]
            by_cases c7 : wend (wk A w) < -X v w
            · rw [if_neg (by omega), if_pos c7]
            · rw [if_pos (by omega), if_neg c7]
          · rw [if_pos (by omega), if_neg c6]
            by_cases c7 : wend (wk A w) < -X v w
            · rw [if_neg (by omega), if_pos c7]
            · rw [if_pos (by omega), if_neg c7]
        · rw [if_neg (by omega), if_neg c5])
      obtain ⟨r, f', e', k1, k2, k3⟩ := key
      exact ⟨r, f', e', k1, k2, Or.inr ⟨c1, k3⟩⟩
    · rw [if_pos c1]
      exact ⟨-1, f, e, rfl, h, Or.inl ⟨c1, rfl⟩⟩
  · rw [if_pos c]
    exact ⟨-1, f, e, rfl, h, mq_no c⟩
theorem m_meetsRow (hS : Msh M σ) (h : MH A f e) (hA : Wf A) (hX : Sm A X) {v w i : Nat} {c : Int} (v1 : v < wn A) (w1 : w < wn A) (hi : i ≤ wlast (wk A v)) (hn : 100000 ≤ n) : loopM (mX10_meets_L47 n M (iI v) (iI w) (iI i)) n (MX M σ f e X, iI c, iI 0) = some (MX M σ f e X, iI (c + sm (fun j => mtc (wk A v) (wk A w) (X v w) (-X w v) i j) (wlast (wk A w) + 1))) := by
  have W := mAll hS
  have h8 := hA.2.2.1.1
  have hx := h.mx X
  have fv := hA.2.2.1.2 v v1
  have fw := hA.2.2.1.2 w w1
  have l1 := fv.2.2.2.1
  have l2 := fw.2.2.2.1
  have b1 := hX v w (Or.inl v1) (Or.inl w1)
  have b2 := hX w v (Or.inl w1) (Or.inl v1)
  obtain ⟨a1, a2, -⟩ := hx.2.2.1.2 v v1
  obtain ⟨a3, a4, -⟩ := hx.2.2.1.2 w w1
  have e0 : (MX M σ f e X, iI c, iI 0) = (fun t : Nat => (MX M σ f e X, iI (c + sm (fun j => mtc (wk A v) (wk A w) (X v w) (-X w v) i j) t), iI (t : Int))) 0 := by
    show _ = (MX M σ f e X, iI (c + 0), _)
    rw [Int.add_zero]; rfl
  rw [e0]
  refine loop_run (fun t : Nat => (MX M σ f e X, iI (c + sm (fun j => mtc (wk A v) (wk A w) (X v w) (-X w v) i j) t), iI (t : Int))) (wlast (wk A w) + 1) 0 (fun t _ ht => ?_) ?_ n (by omega)
  · have p1 := pace9 fv (i := i) (by omega)
    have p2 := pace9 fw (i := t) (by omega)
    have ht1 : t ≤ wlast (wk A w) := by omega
    have k1 := cell256 hA fv hi
    have k2 := cell256 hA fw ht1
    have es : c + sm (fun j => mtc (wk A v) (wk A w) (X v w) (-X w v) i j) (t + 1) = c + sm (fun j => mtc (wk A v) (wk A w) (X v w) (-X w v) i j) t + mtc (wk A v) (wk A w) (X v w) (-X w v) i t := by
      show c + (sm (fun j => mtc (wk A v) (wk A w) (X v w) (-X w v) i j) t + mtc (wk A v) (wk A w) (X v w) (-X w v) i t) = _
      omega
    simp (disch := omega) only [mX10_meets_L47, W, Option.bind_some, a2, a3, a4, iI_lt, iI_mul, iI_sub, nm, m_cellAt hS hx hA v1 hi, m_cellAt hS hx hA w1 ht1, iI_eq, m_gapLow hS (show v < 9 by omega) (show w < 9 by omega), m_gapHigh hS (show v < 9 by omega) (show w < 9 by omega), m_in, iL, bI_0, mX10_meets_122, mX10_meets_123, iI_add]
    rw [if_neg (by omega), es]
    unfold mtc
    by_cases d3 : wcell (wk A v) i = wcell (wk A w) t
    · rw [if_pos (by omega)]
      by_cases d1 : X v w ≤ (wpace (wk A v) : Int) * i - wpace (wk A w) * t ∧ (wpace (wk A v) : Int) * i - wpace (wk A w) * t ≤ -X w v
      · rw [if_neg (fun q => q d1), if_pos ⟨d1.1, d1.2, d3⟩]; rfl
      · rw [if_pos d1, if_neg (fun q => d1 ⟨q.1, q.2.1⟩)]; rfl
    · rw [if_neg (by omega), if_neg (fun q => d3 q.2.2)]; rfl
  · simp (disch := omega) only [Nat.zero_add, mX10_meets_L47, W, Option.bind_some, a3, iI_lt]
    rw [if_pos (by omega)]
theorem m_meets (hS : Msh M σ) (h : MH A f e) (hA : Wf A) (x : Int32) {a b : Int} (ha : RI a) (hb : RI b) (hn : 100000 ≤ n) : ∃ r f' e', mX10_meets n (MW M σ f e) M x (iI a) (iI b) = some (iI r, MW M σ f' e') ∧ MH A f' e' ∧ Two (isW A a ∧ isW A b ∧ a ≠ b) (-1) (Qry A x (-1) (FMeets A a b)) r := by
  have W := mAll hS
  have h8 := hA.2.2.1.1
  unfold mX10_meets
  simp only [W, Option.bind_some, m_isSet hS h hA x, m_areTwo hS h hA ha hb, iL, iI_neg, bI_0]
  by_cases c : un x < 2 ^ fn A
  · rw [if_neg (fun q => q c)]
    by_cases c1 : isW A a ∧ isW A b ∧ a ≠ b
    · rw [if_neg (fun q => q c1)]
      obtain ⟨v, v1, v2, v3⟩ := isW.nat c1.1
      obtain ⟨w, w1, w2, w3⟩ := isW.nat c1.2.1
      have key := mq_step (n := n) hS h hA x hn (no := -1) (F := FMeets A a b) (cont := fun q => if q.1 = iI 0 then some (iI (-1), q.2) else (loopM (mX10_meets_L33 n M (iI a) (iI b)) n (q.2, iI 0, iI 0)).bind fun q => some (q.2, q.1)) c (fun s => rfl) (fun X hX hL => by
        have hx := h.mx X
        have a1 := (hx.2.2.1.2 v v1).1
        have l1 := (hA.2.2.1.2 v v1).2.2.2.1
        have L : loopM (mX10_meets_L33 n M (iI v) (iI w)) n (MX M σ f e X, iI 0, iI 0) = some (MX M σ f e X, iI (sm (fun i => sm (fun j => mtc (wk A v) (wk A w) (X v w) (-X w v) i j) (wlast (wk A w) + 1)) (wlast (wk A v) + 1))) := by
          have e0 : (MX M σ f e X, iI 0, iI 0) = (fun t : Nat => (MX M σ f e X, iI (sm (fun i => sm (fun j => mtc (wk A v) (wk A w) (X v w) (-X w v) i j) (wlast (wk A w) + 1)) t), iI (t : Int))) 0 := rfl
          rw [e0]
          refine loop_run (fun t : Nat => (MX M σ f e X, iI (sm (fun i => sm (fun j => mtc (wk A v) (wk A w) (X v w) (-X w v) i j) (wlast (wk A w) + 1)) t), iI (t : Int))) (wlast (wk A v) + 1) 0 (fun t _ ht => ?_) ?_ n (by omega)
          · simp (disch := omega) only [mX10_meets_L33, W, Option.bind_some, a1, iI_lt, iL, m_meetsRow hS h hA hX v1 w1 (show t ≤ wlast (wk A v) by omega) hn, iI_add]
            rw [if_neg (by omega)]; rfl
          · simp (disch := omega) only [Nat.zero_add, mX10_meets_L33, W, Option.bind_some, a1, iI_lt]
            rw [if_pos (by omega)]
        refine ⟨_, f, _, ?_, hx, rfl⟩
        rw [if_neg (by show ¬ iI 1 = iI 0; decide), v2, w2]
        simp only [L, Option.bind_some]
        rfl)
      obtain ⟨r, f', e', k1, k2, k3⟩ := key
      exact ⟨r, f', e', k1, k2, Or.inr ⟨c1, k3⟩⟩
    · rw [if_pos c1]
      exact ⟨-1, f, e, rfl, h, Or.inl ⟨c1, rfl⟩⟩
  · rw [if_pos c]
    exact ⟨-1, f, e, rfl, h, mq_no c⟩
theorem MX_ups (r : Nat) (hr : r ≠ 15) (z v : Int) : MW M σ f (ups (setR e 15 (dX (e 15) X)) r z v) = MX M σ f (ups e r z v) X := by
  have h1 : ups e r z v 15 = e 15 := by unfold ups; rw [if_neg (fun q => hr q.symm)]
  have h : ups (setR e 15 (dX (e 15) X)) r z v = setR (ups e r z v) 15 (dX (ups e r z v 15) X) := by
    rw [h1]
    funext q
    unfold ups setR
    by_cases c : q = r
    · rw [if_pos c, if_neg (show ¬ r = 15 from hr), if_neg (by omega)]
      show _ = if q = r then upj (e r) z v else e q
      rw [if_pos c]
    · rw [if_neg c]
      by_cases c2 : q = 15
      · rw [if_pos c2, if_pos c2]
      · rw [if_neg c2, if_neg c2]
        show _ = if q = r then upj (e r) z v else e q
        rw [if_neg c]
  rw [h]
theorem m_settle (hS : Msh M σ) (h : MH A f e) (hA : Wf A) (x : Int32) (hn : 100000 ≤ n) : ∃ r A' f' e', mX10_settle n (MW M σ f e) M x = some (iI r, MW M σ f' e') ∧ MH A' f' e' ∧ Settle A x A' r := by
  have W := mAll hS
  have h8 := hA.2.2.1.1
  unfold mX10_settle
  simp only [W, Option.bind_some, m_isSet hS h hA x, iL, bI_0]
  by_cases c : un x < 2 ^ fn A
  · rw [if_neg (fun q => q c)]
    obtain ⟨X, hq⟩ := m_canBe (n := n) hS h hA (show un x < 2147483648 by have := set20 hA c; omega) hn
    rcases hq with ⟨q1, q2⟩ | ⟨q1, q2⟩
    · simp only [q1, Option.bind_some]
      rw [if_neg (by decide)]
      have key := loop_inv (body := mX10_settle_L20 n M) (fun s => ∃ (t : Nat) (e' : Nat → Int → Int), t ≤ wn A ∧ s = (MX M σ f e' X, iI (t : Int)) ∧ (∀ r, r ≠ 8 → e' r = e r) ∧ (∀ k : Nat, wn A ≤ k → e' 8 k = e 8 k) ∧ ∀ k : Nat, k < wn A → e' 8 k = if k < t then X 8 k else e 8 k) (fun s => wn A - s.2.toNatClampNeg)
        (fun s => ∃ e' : Nat → Int → Int, s = MX M σ f e' X ∧ (∀ r, r ≠ 8 → e' r = e r) ∧ (∀ k : Nat, wn A ≤ k → e' 8 k = e 8 k) ∧ ∀ k : Nat, k < wn A → e' 8 k = X 8 k) ?_ n (MX M σ f e X, iI 0) ⟨0, e, by omega, rfl, fun _ _ => rfl, fun _ _ => rfl, fun k _ => by rw [if_neg (by omega)]⟩ (by show wn A - _ < n; omega)
      · obtain ⟨s, hs, e', rfl, k1, k8, k2⟩ := key
        simp only [hs, Option.bind_some]
        have hM : MH (toX A (ZX X) (wn A)) f e' := h.told k1 (fun k hk => by
          have p : 0 ≤ X 8 k := by
            have hd := hA.1
            exact q2.1.2.1 0 (k + 1) 0 (by omega) (by omega) (Or.inl (Or.inl ⟨rfl, rfl⟩))
          refine ⟨(X 8 k).toNat, ?_, by rw [k2 k hk]; omega⟩
          show (if k < wn A then tld (wk A k) ((ZX X) 0 (k + 1)).toNat else wk A k) = _
          rw [if_pos hk]
          rfl) k8
        exact ⟨1, _, f, _, rfl, hM.mx X, Or.inl ⟨c, _, q2, rfl, rfl⟩⟩
      · rintro _ ⟨t, e', t1, rfl, k1, k8, k2⟩
        have e20 : f 20 = wn A := h.2.2.1.1
        by_cases ct : t = wn A
        · refine Or.inr ⟨_, ?_, e', rfl, k1, k8, fun k hk => by rw [k2 k hk, if_pos (by omega)]⟩
          simp (disch := omega) only [mX10_settle_L20, W, Option.bind_some, e20, iI_le]
          rw [if_pos (by omega)]
        · have z0 : (iI (t : Int)).toNatClampNeg = t := by rw [iI_clamp (by omega) (by omega)]; omega
          have z1 : (iI ((t : Int) + 1)).toNatClampNeg = t + 1 := by rw [iI_clamp (by omega) (by omega)]; omega
          have hm : wn A - (iI ((t : Int) + 1)).toNatClampNeg < wn A - (iI (t : Int)).toNatClampNeg := by omega
          simp (disch := omega) only [mX10_settle_L20, W, Option.bind_some, e20, iI_le, m_low hS (show t < 9 by omega), iL, iI_add, MX_ups 8 (by omega)]
          rw [if_neg (by omega)]
          refine Or.inl ⟨_, rfl, ⟨t + 1, ups e' 8 t (X 8 t), by omega, rfl, fun r hr => ?_, fun k hk => ?_, fun k hk => ?_⟩, hm⟩
          · unfold ups; rw [if_neg hr]; exact k1 r hr
          · unfold ups upj; rw [if_pos rfl, if_neg (by omega)]; exact k8 k hk
          · unfold ups upj
            rw [if_pos rfl]
            by_cases ck : k = t
            · rw [if_pos (by omega), if_pos (by omega), ck]
            · rw [if_neg (by omega), k2 k hk]
              by_cases ck2 : k < t
              · rw [if_pos ck2, if_pos (by omega)]
              · rw [if_neg ck2, if_neg (by omega)]
    · simp only [q1, Option.bind_some, if_true]
      exact ⟨0, A, f, _, rfl, h.mx X, Or.inr ⟨Or.inr q2, rfl, rfl⟩⟩
  · rw [if_pos c]
    exact ⟨0, A, f, e, rfl, h, Or.inr ⟨Or.inl c, rfl, rfl⟩⟩
end X60
