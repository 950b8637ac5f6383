/-! ===== the reference: walk ===== -/
def addW (A : AS) (w : Wk) : AS := (A.1, (0, tb A), (wn A + 1, fun k => if k = wn A then w else wk A k), A.2.2.2.1, A.2.2.2.2)
def newW (A : AS) (p b : Int) (L : List Nat) : Wk := (p.toNat, b.toNat, (pfo A L (u0 A)).1, (pfo A L (u0 A)).2.1, 0)
def wkOK (A : AS) (p b : Int) : Prop := (1 ≤ p ∧ p ≤ 9) ∧ (0 ≤ b ∧ b ≤ 9) ∧ wn A < 8 ∧ flt A = -1
def WalkQ (A : AS) (p b : Int) (A' : AS) (r : Int) : Prop := (wkOK A p b ∧ ∃ L, Sec A (hdF A).2.2.2 1 L (tn A) ∧ A' = addW A (newW A p b L) ∧ r = wn A) ∨ (¬ wkOK A p b ∧ A' = A ∧ r = -1)
section X82
variable {M n : Nat} {σ : Sg} {A : AS} {f : Nat → Int} {e : Nat → Int → Int}
theorem hd_wf (h : (hdF A).1 = -1) : (hdF A).2.1 < wide A ∧ (hdF A).2.2.1 < deep A ∧ (hdF A).2.2.2 ≤ tn A := by
  have s0 := sk_le (A := A) (i := 0) (by omega)
  unfold hdF hd1 at h ⊢
  by_cases c1 : cb A (sk A 0) = 64
  · rw [if_pos c1] at h ⊢
    have in0 := cb_in (A := A) (i := sk A 0) (by omega)
    have p1 := numF_pos (A := A) (j := sk A (sk A 0 + 1)) (bd := wide A) (sk_le (by omega))
    have x1 := numF_lt (A := A) (j := sk A (sk A 0 + 1)) (bd := wide A)
    generalize numF A (sk A (sk A 0 + 1)) (wide A) = q1 at h p1 x1
    unfold hd2 at h ⊢
    by_cases c2 : q1.1 = true
    · rw [if_pos c2] at h ⊢
      have s1 := sk_le p1
      unfold hd3 at h ⊢
      by_cases c3 : cb A (sk A q1.2.1) = 44
      · rw [if_pos c3] at h ⊢
        have in1 := cb_in (A := A) (i := sk A q1.2.1) (by omega)
        have p2 := numF_pos (A := A) (j := sk A (sk A q1.2.1 + 1)) (bd := deep A) (sk_le (by omega))
        have x2 := numF_lt (A := A) (j := sk A (sk A q1.2.1 + 1)) (bd := deep A)
        generalize numF A (sk A (sk A q1.2.1 + 1)) (deep A) = q2 at h p2 x2
        unfold hd4 at h ⊢
        by_cases c4 : q2.1 = true
        · rw [if_pos c4] at h ⊢
          exact ⟨x1 c2, x2 c4, p2⟩
        · rw [if_neg c4] at h
          have h' : (q2.2.1 : Int) = -1 := h
          omega
      · rw [if_neg c3] at h
        have h' : (sk A q1.2.1 : Int) = -1 := h
        omega
    · rw [if_neg c2] at h
      have h' : (q1.2.1 : Int) = -1 := h
      omega
  · rw [if_neg c1] at h
    have h' : (sk A 0 : Int) = -1 := h
    omega
theorem flt_hd (h : flt A = -1) : (hdF A).1 = -1 ∧ au A (tn A - (hdF A).2.2.2) (hdF A).2.2.2 0 false false = -1 := by
  unfold flt at h
  by_cases c : (hdF A).1 = -1
  · rw [if_pos c] at h; exact ⟨c, h⟩
  · rw [if_neg c] at h; exact absurd h c
theorem flt_sec (h : flt A = -1) : ∃ L, Sec A (hdF A).2.2.2 1 L (tn A) := by
  obtain ⟨h1, h2⟩ := flt_hd h
  have h3 := (hd_wf h1).2.2
  obtain ⟨L, j, s1, -, -, s4⟩ := au_sec (A := A) _ _ 0 false false 1 (by omega) h2
  rcases s4 with ⟨-, s4⟩ | ⟨s4, -⟩
  · rw [s4] at s1; exact ⟨L, s1⟩
  · omega
theorem u0_wf (hA : Wf A) (h : flt A = -1) : PWf A (u0 A) := by
  have wd := hA.1
  obtain ⟨a, b, -⟩ := hd_wf (flt_hd h).1
  refine ⟨by show 0 ≤ 60; omega, by show 0 ≤ 0; omega, fun k hk => ?_, fun k hk => by have hk' : k < 0 := hk; omega⟩
  show inY A (16 * (hdF A).2.2.1 + (hdF A).2.1)
  unfold inY
  omega
theorem flt_R (hA : Wf A) : -1 ≤ flt A ∧ flt A ≤ 1000 := by
  have t160 := hA.2.1.1
  have ar := au_R (A := A) (tn A - (hdF A).2.2.2) (hdF A).2.2.2 0 false false
  unfold flt
  by_cases c : (hdF A).1 = -1
  · rw [if_pos c]
    have := (hd_wf c).2.2
    rcases ar with q | ⟨q0, q1, q2, q3⟩
    · omega
    · omega
  · rw [if_neg c]
    clear ar
    unfold hdF hd1 hd2 hd3 hd4 at c ⊢
    have s0 := sk_le (A := A) (i := 0) (by omega)
    split
    · rename_i d1
      rw [if_pos d1] at c
      have in0 := cb_in (A := A) (i := sk A 0) (by omega)
      have p1 := numF_pos (A := A) (j := sk A (sk A 0 + 1)) (bd := wide A) (sk_le (by omega))
      have s1 := sk_le p1
      split
      · rename_i d2
        rw [if_pos d2] at c
        split
        · rename_i d3
          rw [if_pos d3] at c
          have in1 := cb_in (A := A) (i := sk A (numF A (sk A (sk A 0 + 1)) (wide A)).2.1) (by omega)
          have p2 := numF_pos (A := A) (j := sk A (sk A (numF A (sk A (sk A 0 + 1)) (wide A)).2.1 + 1)) (bd := deep A) (sk_le (by omega))
          split
          · exact ⟨Int.le_refl _, by show (-1 : Int) ≤ 1000; omega⟩
          · show -1 ≤ ((numF A (sk A (sk A (numF A (sk A (sk A 0 + 1)) (wide A)).2.1 + 1)) (deep A)).2.1 : Int) ∧ ((numF A (sk A (sk A (numF A (sk A (sk A 0 + 1)) (wide A)).2.1 + 1)) (deep A)).2.1 : Int) ≤ 1000
            omega
        · show -1 ≤ (sk A (numF A (sk A (sk A 0 + 1)) (wide A)).2.1 : Int) ∧ (sk A (numF A (sk A (sk A 0 + 1)) (wide A)).2.1 : Int) ≤ 1000
          omega
      · show -1 ≤ ((numF A (sk A (sk A 0 + 1)) (wide A)).2.1 : Int) ∧ ((numF A (sk A (sk A 0 + 1)) (wide A)).2.1 : Int) ≤ 1000
        omega
    · show -1 ≤ (sk A 0 : Int) ∧ (sk A 0 : Int) ≤ 1000
      omega
theorem m_walk (hS : Msh M σ) (h : MH A f e) (hA : Wf A) {p b : Int} (hp : RI p) (hb : RI b) (hn : 100000 ≤ n) : ∃ r A' f' e', mX10_walk n (MW M σ f e) M (iI p) (iI b) = some (iI r, MW M σ f' e') ∧ MH A' f' e' ∧ WalkQ A p b A' r := by
  have W := mAll hS
  have h8 := hA.2.2.1.1
  unfold RI at hp hb
  unfold mX10_walk
  simp (disch := omega) only [W, Option.bind_some, iL, iI_neg, m_in, bI_0]
  by_cases c1 : 1 ≤ p ∧ p ≤ 9
  · rw [if_neg (fun q => q c1)]
    by_cases c2 : 0 ≤ b ∧ b ≤ 9
    · rw [if_neg (fun q => q c2)]
      simp (disch := omega) only [W, Option.bind_some, h.2.2.1.1, iI_eq]
      by_cases c3 : wn A = 8
      · rw [if_pos (by omega)]
        exact ⟨-1, A, f, e, rfl, h, Or.inr ⟨fun q => by have := q.2.2.1; omega, rfl, rfl⟩⟩
      · rw [if_neg (by omega)]
        have c8 : wn A < 8 := by omega
        obtain ⟨f1, e1, k1, k2, -⟩ := m_read (n := n) hS h hA false hn
        have k1' : mX10_read n (MW M σ f e) M (iI 0) = some (iI (flt A), MW M σ f1 e1) := k1
        have fr := flt_R hA
        simp (disch := omega) only [k1', Option.bind_some, iI_eq]
        by_cases c4 : flt A = -1
        · rw [if_pos c4]
          obtain ⟨L, hL⟩ := flt_sec c4
          obtain ⟨f2, e2, m1, m2, m3⟩ := m_read (n := n) hS k2 hA true hn
          have m1' : mX10_read n (MW M σ f1 e1) M (iI 1) = some (iI (flt A), MW M σ f2 e2) := m1
          have P2 := m3 c4 rfl L hL
          have U2 := pfo_wf hA L (u0 A) (u0_wf hA c4)
          generalize hu : pfo A L (u0 A) = u at P2 U2
          have u60 := U2.1
          simp only [m1', Option.bind_some]
          have key := loop_inv (body := mX10_walk_L48 n M) (fun s => ∃ (t : Nat) (e' : Nat → Int → Int), t ≤ u.1 + 1 ∧ s = (MW M σ f2 e', iI (t : Int)) ∧ (∀ r, r ≠ 4 → e' r = e2 r) ∧ (∀ z : Int, z < 61 * (wn A : Int) → e' 4 z = e2 4 z) ∧ ∀ k : Nat, k < t → e' 4 (61 * (wn A : Int) + k) = u.2.1 k) (fun s => u.1 + 1 - s.2.toNatClampNeg)
            (fun s => ∃ e' : Nat → Int → Int, s = MW M σ f2 e' ∧ (∀ r, r ≠ 4 → e' r = e2 r) ∧ (∀ z : Int, z < 61 * (wn A : Int) → e' 4 z = e2 4 z) ∧ ∀ k : Nat, k ≤ u.1 → e' 4 (61 * (wn A : Int) + k) = u.2.1 k) ?_ n (MW M σ f2 e2, iI 0) ⟨0, e2, by omega, rfl, fun _ _ => rfl, fun _ _ => rfl, fun k hk => by omega⟩ (by show u.1 + 1 - _ < n; omega)
          · obtain ⟨s, hs, e3, rfl, g1, g2, g3⟩ := key
            have f11 : f2 11 = u.1 := P2.1
            have f20 : f2 20 = wn A := m2.2.2.1.1
            have f20' : updZ f2 5 0 20 = (wn A : Int) := by rw [updZ_ne _ _ (by omega)]; exact f20
            have f20'' : ∀ v, updZ (updZ f2 5 0) 20 v 20 = v := fun v => updZ_same _ _ _
            simp (disch := omega) only [hs, Option.bind_some, W, f11, f20, f20', f20'', iI_add, iI_sub]
            refine ⟨_, addW A (newW A p b L), _, _, rfl, ?_, Or.inl ⟨⟨c1, c2, c8, c4⟩, L, hL, rfl, by omega⟩⟩
            obtain ⟨q1, q2, q3, q4, q5⟩ := m2
            have r5 : ∀ r, r ≠ 4 → r ≠ 5 → r ≠ 6 → r ≠ 7 → ups (ups (ups e3 5 (wn A) (u.1 : Int)) 6 (wn A) p) 7 (wn A) b r = e2 r := fun r a1 a2 a3 a4 => by
              rw [ups_ne _ _ _ a4, ups_ne _ _ _ a3, ups_ne _ _ _ a2, g1 r a1]
            have w4 : ups (ups (ups e3 5 (wn A) (u.1 : Int)) 6 (wn A) p) 7 (wn A) b 4 = e3 4 := by rw [ups_ne _ _ _ (by omega), ups_ne _ _ _ (by omega), ups_ne _ _ _ (by omega)]
            have w5 : ups (ups (ups e3 5 (wn A) (u.1 : Int)) 6 (wn A) p) 7 (wn A) b 5 = upj (e2 5) (wn A) (u.1 : Int) := by rw [ups_ne _ _ _ (by omega), ups_ne _ _ _ (by omega), ups_same, g1 5 (by omega)]
            have w6 : ups (ups (ups e3 5 (wn A) (u.1 : Int)) 6 (wn A) p) 7 (wn A) b 6 = upj (e2 6) (wn A) p := by rw [ups_ne _ _ _ (by omega), ups_same, ups_ne _ _ _ (by omega), g1 6 (by omega)]
            have w7 : ups (ups (ups e3 5 (wn A) (u.1 : Int)) 6 (wn A) p) 7 (wn A) b 7 = upj (e2 7) (wn A) b := by rw [ups_same, ups_ne _ _ _ (by omega), ups_ne _ _ _ (by omega), g1 7 (by omega)]
            have upA' : ∀ (d : Int → Int) (v : Int), upj d (wn A) v (wn A) = v := fun d v => by unfold upj; rw [if_pos rfl]
            have upB' : ∀ (d : Int → Int) (v : Int) (k : Nat), k < wn A → upj d (wn A) v k = d k := fun d v k hk => by unfold upj; rw [if_neg (by omega)]
            have mf : ∀ k, k ≠ 5 → k ≠ 20 → updZ (updZ f2 5 0) 20 ((wn A : Int) + 1) k = f2 k := fun k a1 a2 => by rw [updZ_ne _ _ a2, updZ_ne _ _ a1]
            refine ⟨⟨by rw [mf 1 (by omega) (by omega)]; exact q1.1, by rw [mf 2 (by omega) (by omega)]; exact q1.2.1, by rw [mf 3 (by omega) (by omega)]; exact q1.2.2.1, fun k hk => ?_⟩, ⟨?_, fun k hk => by have hk' : k < 0 := hk; omega⟩, ⟨?_, fun w hw => ?_⟩, ⟨by rw [mf 27 (by omega) (by omega)]; exact q4.1, fun k hk => ?_⟩, ⟨by rw [mf 36 (by omega) (by omega)]; exact q5.1, fun k hk => by rw [r5 17 (by omega) (by omega) (by omega) (by omega)]; exact q5.2 k hk⟩⟩
            · have hk' : wn A + 1 ≤ k := hk
              rw [r5 8 (by omega) (by omega) (by omega) (by omega)]
              exact q1.2.2.2 k (by omega)
            · rw [updZ_ne _ _ (by omega), updZ_same]; rfl
            · rw [updZ_same]; rfl
            · have hw' : w < wn A + 1 := hw
              show MHw _ w (if w = wn A then newW A p b L else wk A w)
              by_cases cw : w = wn A
              · rw [if_pos cw, cw]
                unfold MHw newW
                rw [w4, w5, w6, w7, r5 8 (by omega) (by omega) (by omega) (by omega), upA', upA', upA', hu]
                refine ⟨rfl, by show p = (p.toNat : Int); omega, by show b = (b.toNat : Int); omega, q1.2.2.2 _ (Nat.le_refl _), fun i hi => ?_⟩
                have hi' : i ≤ u.1 := hi
                exact g3 i hi'
              · rw [if_neg cw]
                have wl : w < wn A := by omega
                obtain ⟨a1, a2, a3, a4, a5⟩ := q3.2 w wl
                have l60 := (hA.2.2.1.2 w wl).2.2.2.1
                refine ⟨by rw [w5, upB' _ _ _ wl]; exact a1, by rw [w6, upB' _ _ _ wl]; exact a2, by rw [w7, upB' _ _ _ wl]; exact a3, by rw [r5 8 (by omega) (by omega) (by omega) (by omega)]; exact a4, fun i hi => ?_⟩
                rw [w4, g2 _ (by omega)]
                exact a5 i hi
            · rw [r5 9 (by omega) (by omega) (by omega) (by omega), r5 10 (by omega) (by omega) (by omega) (by omega), r5 11 (by omega) (by omega) (by omega) (by omega), r5 12 (by omega) (by omega) (by omega) (by omega), r5 13 (by omega) (by omega) (by omega) (by omega), r5 14 (by omega) (by omega) (by omega) (by omega)]
              refine (q4.2 k hk).congr (Nat.le_succ _) (fun w hw z => ?_)
              show mad (if w = wn A then newW A p b L else wk A w) z = _
              rw [if_neg (by omega)]
          · rintro _ ⟨t, e', t1, rfl, g1, g2, g3⟩
            have f11 : f2 11 = u.1 := P2.1
            have f20 : f2 20 = wn A := m2.2.2.1.1
            by_cases ct : t = u.1 + 1
            · refine Or.inr ⟨_, ?_, e', rfl, g1, g2, fun k hk => g3 k (by omega)⟩
              simp (disch := omega) only [mX10_walk_L48, W, Option.bind_some, f11, iI_lt]
              rw [if_pos (by omega)]
            · have e2t : e' 2 (t : Int) = u.2.1 t := by rw [g1 2 (by omega)]; exact P2.2.2.2.2.1 t (by omega)
              simp (disch := omega) only [mX10_walk_L48, W, Option.bind_some, f11, f20, iI_lt, iL, iI_mul, iI_add, e2t]
              rw [if_neg (by omega)]
              refine Or.inl ⟨_, rfl, ⟨t + 1, ups e' 4 (61 * (wn A : Int) + t) (u.2.1 t), by omega, rfl, fun r hr => by rw [ups_ne _ _ _ hr]; exact g1 r hr, fun z hz => ?_, fun k hk => ?_⟩, ?_⟩
              · rw [ups_same]; unfold upj; rw [if_neg (by omega)]; exact g2 z hz
              · rw [ups_same]; unfold upj
                by_cases ck : k = t
                · rw [if_pos (by omega), ck]
                · rw [if_neg (by omega)]; exact g3 k (by omega)
              · show u.1 + 1 - (iI ((t : Int) + 1)).toNatClampNeg < u.1 + 1 - (iI (t : Int)).toNatClampNeg
                rw [iI_clamp (by omega) (by omega), iI_clamp (by omega) (by omega)]
                omega
        · rw [if_neg c4]
          exact ⟨-1, A, f1, e1, rfl, k2, Or.inr ⟨fun q => c4 q.2.2.2, rfl, rfl⟩⟩
    · rw [if_pos c2]
      exact ⟨-1, A, f, e, rfl, h, Or.inr ⟨fun q => c2 q.2.1, rfl, rfl⟩⟩
  · rw [if_pos c1]
    exact ⟨-1, A, f, e, rfl, h, Or.inr ⟨fun q => c1 q.1, rfl, rfl⟩⟩
end X82
