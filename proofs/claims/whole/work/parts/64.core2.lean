/-! ===== core: the class's answer ===== -/
section X64
variable {B n : Nat} {wa : Nat → Nat} {σ : Sg} {A : AS}
theorem AfB.Bt (hA : Wf A) {S u : Nat} {a : Nat → Int} (h : AfB A S u a) (hu : u ≤ 12) (hs : ∀ k, k < 81 → ¬ (k / 9 < wn A + 1 ∧ k % 9 < wn A + 1) → -3000 ≤ a k ∧ a k ≤ 3000) : Bt a := by
  intro k hk
  by_cases c : k / 9 < wn A + 1 ∧ k % 9 < wn A + 1
  · have := h.R hA c.1 c.2
    rw [show k / 9 * 9 + k % 9 = k by omega] at this
    omega
  · have := hs k hk c; omega
theorem AfM.Bt (hA : Wf A) {S u : Nat} {D : Ac → Prop} {a : Nat → Int} (h : AfM A S u D a) (hu : u ≤ 12) (hs : ∀ k, k < 81 → ¬ (k / 9 < wn A + 1 ∧ k % 9 < wn A + 1) → -3000 ≤ a k ∧ a k ≤ 3000) : Bt a := by
  have hd := hA.1
  intro k hk
  by_cases c : k / 9 < wn A + 1 ∧ k % 9 < wn A + 1
  · obtain ⟨⟨L, l1, l2, l3⟩, h2, -⟩ := h (k / 9) (k % 9) c.1 c.2
    have a1 := tv_le hA L (k / 9) (k % 9) l2
    have a2 := h2 [] (Nat.zero_le _) (fun x hx => by cases hx)
    have a3 : tv A (k / 9) [] (k % 9) = fv (day A) (k / 9) (k % 9) := rfl
    have f1 := fv_R (day A) (by omega) (k / 9) (k % 9)
    rw [show k / 9 * 9 + k % 9 = k by omega] at l3 a2
    omega
  · have := hs k hk c; omega
theorem gov_out {P : Nat} {a b d : Nat → Int} {o u : Nat} {r : Int} {k : Nat} (hk : ¬ (k / 9 < P ∧ k % 9 < P)) : gov P 0 P a b d o u r k = a k := by
  unfold gov
  rw [if_neg (by omega)]
/-- a round over the facts of a set -/
theorem x_round (hC : RC B wa σ A) (hA : Wf A) {d : Nat → Int} (hN : NetAt σ (B + 6) (B + 7) (wn A + 1) d) (hd : Bs d) (hdf : ∀ p q, p < wn A + 1 → q < wn A + 1 → d (p * 9 + q) = fv (day A) p q) (x : Int32) {u : Nat} {a b : Nat → Int} (hu : u < 12) (ha : AfB A (un x) u a) (hb : AfB A (un x) u b) (hs : ∀ k, k < 81 → ¬ (k / 9 < wn A + 1 ∧ k % 9 < wn A + 1) → -3000 ≤ a k ∧ a k ≤ 3000) (hsb : ∀ k, k < 81 → ¬ (k / 9 < wn A + 1 ∧ k % 9 < wn A + 1) → -3000 ≤ b k ∧ b k ≤ 3000) (hn : 100000 ≤ n) :
    ∃ a', loopM (mX1_fewest_L49 n (B + 8) (B + 6) (B + 4) (iI (fn A)) x) n (co B σ b a, iI 0) = some (co B σ b a') ∧ AfB A (un x) (u + 1) a' ∧ ∀ k, k < 81 → ¬ (k / 9 < wn A + 1 ∧ k % 9 < wn A + 1) → -3000 ≤ a' k ∧ a' k ≤ 3000 := by
  have h8 := hA.2.2.1.1
  have h20 := hA.2.2.2.1.1
  have key := loop_inv (body := mX1_fewest_L49 n (B + 8) (B + 6) (B + 4) (iI (fn A)) x) (fun c => ∃ (t : Nat) (a' : Nat → Int), t ≤ fn A ∧ c = (co B σ b a', iI (t : Int)) ∧ AfM A (un x) u (fun y => y.1 < t ∧ bt (un x) y.1) a' ∧ ∀ k, k < 81 → ¬ (k / 9 < wn A + 1 ∧ k % 9 < wn A + 1) → -3000 ≤ a' k ∧ a' k ≤ 3000) (fun c => fn A - c.2.toNatClampNeg)
    (fun s => ∃ a', s = co B σ b a' ∧ AfB A (un x) (u + 1) a' ∧ ∀ k, k < 81 → ¬ (k / 9 < wn A + 1 ∧ k % 9 < wn A + 1) → -3000 ≤ a' k ∧ a' k ≤ 3000) ?_ n (co B σ b a, iI 0) ⟨0, a, by omega, rfl, fun p q hp hq => ?_, hs⟩ (by show fn A - _ < n; omega)
  · obtain ⟨s, hs1, a', rfl, k1, k2⟩ := key
    exact ⟨a', hs1, k1, k2⟩
  · rintro _ ⟨t, a', t1, rfl, hM, hs'⟩
    by_cases ct : t = fn A
    · refine Or.inr ⟨_, ?_, a', rfl, ?_, hs'⟩
      · simp (disch := omega) only [mX1_fewest_L49, iI_le]
        rw [if_pos (by omega)]
      · intro p q hp hq
        obtain ⟨h1, h2, h3⟩ := hM p q hp hq
        exact (AfM.done (D := fun y => True) (fun p q hp hq => by
          obtain ⟨h1, h2, h3⟩ := hM p q hp hq
          exact ⟨h1, h2, fun L y a1 a2 a3 _ => h3 L y a1 a2 a3 ⟨by have := a3.1; omega, a3.2.1⟩⟩) (fun _ _ => trivial)) p q hp hq
    · have z0 : (iI (t : Int)).toNatClampNeg = t := by rw [iI_clamp (by omega) (by omega)]; omega
      have z1 : (iI ((t : Int) + 1)).toNatClampNeg = t + 1 := by rw [iI_clamp (by omega) (by omega)]; omega
      have hm : fn A - (iI ((t : Int) + 1)).toNatClampNeg < fn A - (iI (t : Int)).toNatClampNeg := by omega
      have htf : t < fn A := by omega
      have F := fun b a => (hC.fr (co_fr (d1 := b) (d2 := a))).factAt htf
      have FW := hA.2.2.2.1.2 t htf
      have w1 := FW.2.2.1
      have w2 := FW.2.2.2.1
      have w3 := FW.2.2.2.2.2
      have ff := fun b a => (hC.fr (co_fr (d1 := b) (d2 := a))).fact (k := t) (by omega)
      by_cases cb : bt (un x) t
      · have M1 := hM.go hA hb hdf (x := (t, true)) htf cb
        have hs1 : ∀ k, k < 81 → ¬ (k / 9 < wn A + 1 ∧ k % 9 < wn A + 1) → -3000 ≤ (if -1000000 < ar A (t, true) then gov (wn A + 1) 0 (wn A + 1) a' b d (aj A (t, true)) (ai A (t, true)) (ar A (t, true)) else a') k ∧ (if -1000000 < ar A (t, true) then gov (wn A + 1) 0 (wn A + 1) a' b d (aj A (t, true)) (ai A (t, true)) (ar A (t, true)) else a') k ≤ 3000 := fun k k1 k2 => by
          by_cases c : -1000000 < ar A (t, true)
          · rw [if_pos c, gov_out k2]; exact hs' k k1 k2
          · rw [if_neg c]; exact hs' k k1 k2
        have M2 := M1.go hA hb hdf (x := (t, false)) htf cb
        have g1 := x_goOver (n := n) hC hN (by omega) (hM.Bt hA (by omega) hs') (hb.Bt hA (by omega) hsb) hd (o := aj A (t, true)) (u := ai A (t, true)) (r := ar A (t, true)) (by show (fc A t).2.1 < wn A + 1; omega) (by show (fc A t).2.2.1 < wn A + 1; omega) (by show -1000000 ≤ (fc A t).2.2.2.1 ∧ (fc A t).2.2.2.1 ≤ 1000000; omega) hn
        generalize hg1 : (if -1000000 < ar A (t, true) then gov (wn A + 1) 0 (wn A + 1) a' b d (aj A (t, true)) (ai A (t, true)) (ar A (t, true)) else a') = a1 at g1 M1 M2 hs1
        have g2 := x_goOver (n := n) hC hN (by omega) (M1.Bt hA (by omega) hs1) (hb.Bt hA (by omega) hsb) hd (o := aj A (t, false)) (u := ai A (t, false)) (r := ar A (t, false)) (by show (fc A t).2.2.1 < wn A + 1; omega) (by show (fc A t).2.1 < wn A + 1; omega) (by show -1000000 ≤ -(fc A t).2.2.2.2 ∧ -(fc A t).2.2.2.2 ≤ 1000000; omega) hn
        have g1' : mX1_goOver n (co B σ b a') (B + 8) (B + 6) (iI (fc A t).2.1) (iI (fc A t).2.2.1) (iI (fc A t).2.2.2.1) = some (co B σ b a1) := g1
        have g2' : mX1_goOver n (co B σ b a1) (B + 8) (B + 6) (iI (fc A t).2.2.1) (iI (fc A t).2.1) (iI (-(fc A t).2.2.2.2)) = some (co B σ b (if -1000000 < ar A (t, false) then gov (wn A + 1) 0 (wn A + 1) a1 b d (aj A (t, false)) (ai A (t, false)) (ar A (t, false)) else a1)) := g2
        obtain ⟨f1, f2, f3, f4, f5, f6⟩ := F b a'
        obtain ⟨k1, k2, k3, k4, k5, k6⟩ := F b a1
        simp (disch := omega) only [mX1_fewest_L49, iI_le, x_isIn x (show t < 32 by omega), Option.bind_some, if_pos cb, ff]
        rw [if_neg (by omega), if_neg (by decide)]
        simp only [gI_ok f1 (show 1 < 5 by omega) f3, gI_ok f1 (show 2 < 5 by omega) f4, gI_ok f1 (show 3 < 5 by omega) f5, Option.bind_some, g1', gI_ok k1 (show 1 < 5 by omega) k3, gI_ok k1 (show 2 < 5 by omega) k4, gI_ok k1 (show 4 < 5 by omega) k6, iI_neg, g2', mX1_fewest_112, iL, iI_add]
        refine Or.inl ⟨_, rfl, ⟨t + 1, _, by omega, rfl, fun p q hp hq => ?_, fun k e1 e2 => ?_⟩, hm⟩
        · obtain ⟨h1, h2, h3⟩ := M2 p q hp hq
          refine ⟨h1, h2, fun L y c1 c2 c3 c4 => h3 L y c1 c2 c3 ?_⟩
          by_cases cy : y.1 < t
          · exact Or.inl (Or.inl ⟨cy, c4.2⟩)
          · obtain ⟨y1, y2⟩ := y
            have e1 : y1 = t := by have := c4.1; show y1 = t; simp only at cy this; omega
            subst e1
            cases y2
            · exact Or.inr rfl
            · exact Or.inl (Or.inr rfl)
        · by_cases c : -1000000 < ar A (t, false)
          · rw [if_pos c, gov_out e2]; exact hs1 k e1 e2
          · rw [if_neg c]; exact hs1 k e1 e2
      · simp (disch := omega) only [mX1_fewest_L49, iI_le, x_isIn x (show t < 32 by omega), Option.bind_some, if_neg cb, mX1_fewest_112, iL, iI_add]
        rw [if_neg (by omega), if_pos trivial]
        refine Or.inl ⟨_, rfl, ⟨t + 1, a', by omega, rfl, fun p q hp hq => ?_, hs'⟩, hm⟩
        obtain ⟨h1, h2, h3⟩ := hM p q hp hq
        refine ⟨h1, h2, fun L y c1 c2 c3 c4 => h3 L y c1 c2 c3 ⟨?_, c4.2⟩⟩
        rcases Nat.lt_or_ge y.1 t with z | z
        · exact z
        · have e1 : y.1 = t := by have := c4.1; omega
          exact absurd (e1 ▸ c4.2) cb
  · obtain ⟨h1, h2, h3⟩ := ha.begin p q hp hq
    exact ⟨h1, h2, fun L y _ _ _ z => absurd z.1 (by omega)⟩
/-- CORE: the fewest facts on a round trip -/
def CoreQ (A : AS) (x : Int32) (r : Int) : Prop := ((¬ un x < 2 ^ fn A ∨ 12 < cntB (un x) (fn A) ∨ can A (un x) (fn A)) ∧ r = -1) ∨ ((un x < 2 ^ fn A ∧ ¬ 12 < cntB (un x) (fn A) ∧ ¬ can A (un x) (fn A)) ∧ ∃ k : Nat, MinT A (un x) k ∧ r = k)
theorem CoreQ.unique {x : Int32} {r r' : Int} (h : CoreQ A x r) (h' : CoreQ A x r') : r = r' := by
  rcases h with ⟨a, b⟩ | ⟨a, k, k1, k2⟩ <;> rcases h' with ⟨c, d⟩ | ⟨c, j, j1, j2⟩
  · omega
  · exact absurd a (by rintro (q | q | q); exact q c.1; exact c.2.1 q; exact c.2.2 q)
  · exact absurd c (by rintro (q | q | q); exact q a.1; exact a.2.1 q; exact a.2.2 q)
  · have := k1.unique j1; omega
theorem x_core (h : St B wa σ A) (x : Int32) (hn : 100000 ≤ n) : ∃ r σ', mX9_core n σ B x = some (iI r, σ') ∧ St B wa σ' A ∧ Fr B σ σ' ∧ CoreQ A x r := by
  obtain ⟨hC, hS, hA⟩ := id h
  have h8 := hA.2.2.1.1
  have h20 := hA.2.2.2.1.1
  have hday : (0 : Int) ≤ day A ∧ (day A : Int) ≤ 2000 := by have := hA.1; omega
  unfold mX9_core
  simp only [hC.o, Option.bind_some, x_isSet hC hA x]
  by_cases c : un x < 2 ^ fn A
  · rw [if_pos c, if_neg (by decide)]
    obtain ⟨bc1, bc2⟩ := bc_cnt h20 c
    simp (disch := omega) only [j_bitCount, Option.bind_some, bc1, iL, iI_lt]
    by_cases c2 : 12 < cntB (un x) (fn A)
    · rw [if_pos (by omega)]
      exact ⟨-1, σ, rfl, h, Fr.refl B σ, Or.inl ⟨Or.inr (Or.inl c2), rfl⟩⟩
    · rw [if_neg (by omega)]
      obtain ⟨⟨p, e, hp, hN, hB⟩, -⟩ := hS
      obtain ⟨d, hd, hq⟩ := x_drawNet (n := n) hC hA hN hB x hn
      rcases hq with ⟨q1, q2⟩ | ⟨m, m1, m2, q1, q2, q3⟩
      · simp only [q1, Option.bind_some]
        exact ⟨-1, _, rfl, h.dn hd, dn_fr d, Or.inl ⟨Or.inr (Or.inr ⟨_, q2.1.1⟩), rfl⟩⟩
      · have nc : ¬ can A (un x) (fn A) := fun q => q3 (can_mono (by omega) q)
        obtain ⟨k, k1, k2⟩ := no_few hA nc
        have h2 := h.dn hd
        have hNd := dn_net hC (d := d) hN
        have cl := net_clear (n := n) hNd (w := wn A) (day := day A) h8 hday hn
        have nb := clr_NB (p := wn A + 1) (day := (day A : Int)) (d := d) (by omega) hday hd
        generalize hd0 : clr (wn A + 1) 0 (wn A + 1) (day A) d = d0 at cl nb
        have hdf : ∀ p q, p < wn A + 1 → q < wn A + 1 → d0 (p * 9 + q) = fv (day A) p q := fun p q hp hq => by
          rw [← hd0]
          unfold clr
          rw [show (p * 9 + q) / 9 = p by omega, show (p * 9 + q) % 9 = q by omega, if_pos (Or.inl ⟨hp, hq⟩)]
        have cl' : mX4_clear n (dn B σ A d) (B + 6) (iI (wn A)) (iI (day A)) = some (dn B (dn B σ A d) A d0) := cl
        have h3 := h2.dn (d := d0) nb.2.2
        have hN3 := dn_net h2.1 (d := d0) hNd
        have fr3 : Fr B σ (dn B (dn B σ A d) A d0) := (dn_fr d).trans (dn_fr d0)
        generalize hτ : dn B (dn B σ A d) A d0 = τ at cl' h3 hN3 fr3
        have hC3 := h3.1
        simp only [q1, Option.bind_some, iI_neg]
        rw [if_neg (fun q => by rw [iI_eq (by omega) (by omega)] at q; omega)]
        simp only [h2.1.r11, h2.1.qwn, h2.1.qday, Option.bind_some, cl', hC3.r12, hC3.r11, hC3.r7, hC3.qfn]
        have s8 : τ.2.1 (B + 8) = some (1, 2) := hC3.sh 8 (by omega)
        have s7 : τ.2.1 (B + 7) = some (11, 81) := hC3.sh 7 (by omega)
        have s9 : τ.2.1 (B + 9) = some (11, 81) := hC3.sh 9 (by omega)
        have s10 : τ.2.1 (B + 10) = some (11, 81) := hC3.sh 10 (by omega)
        obtain ⟨e9, he9⟩ := h3.2.1.2.2.2.1
        obtain ⟨e10, he10⟩ := h3.2.1.2.2.2.2.1
        have p0 : ∀ a b, toR (gV 1 (co B τ a b) (B + 8) 0) = some (B + 9) := fun a b => gR_ok (σ := co B τ a b) s8 (by omega) (by rw [co_ne (by omega) (by omega)]; exact hC3.pt 14 rfl)
        have p1 : ∀ a b, toR (gV 1 (co B τ a b) (B + 8) 1) = some (B + 10) := fun a b => gR_ok (σ := co B τ a b) s8 (by omega) (by rw [co_ne (by omega) (by omega)]; exact hC3.pt 15 rfl)
        have pts : ∀ a b, toI (gV 4 (co B τ a b) (B + 6) 1) = some (iI (wn A + 1 : Nat)) := fun a b => gI_ok (σ := co B τ a b) hN3.1 (by omega) (hN3.co (d1 := a) (d2 := b)).2.2.2.2.1
        have l9 : ∀ a b, lenA 11 (co B τ a b) (B + 9) = some (iI ((81 : Nat) : Int)) := fun a b => lenA_ok (σ := co B τ a b) s9
        have l10 : ∀ a b, lenA 11 (co B τ a b) (B + 10) = some (iI ((81 : Nat) : Int)) := fun a b => lenA_ok (σ := co B τ a b) s10
        have ti : co B τ e9 e10 = τ := co_id he9 he10
        have cp0 : cpA (co B τ e9 e10) (B + 7) (iI 0) (B + 10) (iI 0) (iI ((81 : Nat) : Int)) = some (co B τ e9 (fun k => if k < 81 then d0 k else e10 k)) := by
          rw [cpA_ok (σ := co B τ e9 e10) s7 s10 (hN3.co).2.2.2.2.2 co_10 (by omega), co_set2]
        have cpN : ∀ a b, cpA (co B τ b a) (B + 10) (iI 0) (B + 9) (iI 0) (iI ((81 : Nat) : Int)) = some (co B τ (fun k => if k < 81 then a k else b k) a) := fun a b => by
          rw [cpA_ok (σ := co B τ b a) s10 s9 co_10 co_9 (by omega), co_set1]
        have main := loop_inv (body := mX1_fewest_L21 n (B + 8) (B + 6) (B + 4) (iI (fn A)) x) (fun c => ∃ (t : Nat) (a b : Nat → Int), 1 ≤ t ∧ t ≤ 13 ∧ c = (co B τ b a, iI (t : Int)) ∧ AfB A (un x) (t - 1) a ∧ (∀ k, k < 81 → ¬ (k / 9 < wn A + 1 ∧ k % 9 < wn A + 1) → -3000 ≤ a k ∧ a k ≤ 3000) ∧ ∀ p L, Rnd A (un x) p L → t ≤ L.length) (fun c => 13 - c.2.toNatClampNeg)
          (fun r => ∃ (t : Nat) (a b : Nat → Int), r = .inr (iI (t : Int), co B τ b a) ∧ MinT A (un x) t) ?_ n (co B τ e9 (fun k => if k < 81 then d0 k else e10 k), iI 1) ⟨1, _, _, by omega, by omega, rfl, AfB.start (fun p q hp hq => by show (if p * 9 + q < 81 then d0 (p * 9 + q) else e10 (p * 9 + q)) = _; rw [if_pos (by omega), hdf p q hp hq]), fun k k1 _ => by show -3000 ≤ (if k < 81 then d0 k else e10 k) ∧ (if k < 81 then d0 k else e10 k) ≤ 3000; rw [if_pos k1]; exact nb.2.2 k, fun p L hL => ?_⟩ (by show 13 - _ < n; omega)
        · obtain ⟨r, hr, t, a, b, rfl, hT⟩ := main
          have fw : mX1_fewest n τ (B + 8) (B + 6) (B + 4) (iI (fn A)) x = some (iI (t : Int), co B τ b a) := by
            unfold mX1_fewest
            rw [← ti]
            simp only [isO_ok (σ := co B τ e9 e10) s8, gR_ok (σ := co B τ e9 e10) hN3.1 (show 0 < 2 by omega) (hN3.co (d1 := e9) (d2 := e10)).2.2.2.1, p1, l10, Option.bind_some, iL, cp0, hr]
            rw [ti]
          simp only [fw, Option.bind_some]
          exact ⟨t, _, rfl, h3.co, fr3.trans co_fr, Or.inr ⟨⟨c, c2, nc⟩, t, hT, rfl⟩⟩
        · rintro _ ⟨t, a, b, t0, t1, rfl, hAf, hs, hno⟩
          by_cases ct : t = 13
          · subst ct
            obtain ⟨⟨p, L, r1, r2⟩, -⟩ := k2
            have := hno p L r1
            omega
          · have z0 : (iI (t : Int)).toNatClampNeg = t := by rw [iI_clamp (by omega) (by omega)]; omega
            have z1 : (iI ((t : Int) + 1)).toNatClampNeg = t + 1 := by rw [iI_clamp (by omega) (by omega)]; omega
            have hm : 13 - (iI ((t : Int) + 1)).toNatClampNeg < 13 - (iI (t : Int)).toNatClampNeg := by omega
            have hB' : AfB A (un x) (t - 1) (fun k => if k < 81 then a k else b k) := fun p q hp hq => by
              show (∃ L : List Ac, L.length ≤ t - 1 ∧ (∀ x_1, x_1 ∈ L → aok A (un x) x_1) ∧ (if p * 9 + q < 81 then a (p * 9 + q) else b (p * 9 + q)) = tv A p L q) ∧ ∀ L : List Ac, L.length ≤ t - 1 → (∀ x_1, x_1 ∈ L → aok A (un x) x_1) → tv A p L q ≤ (if p * 9 + q < 81 then a (p * 9 + q) else b (p * 9 + q))
              rw [if_pos (by omega)]
              exact hAf p q hp hq
            obtain ⟨a', r1, r2, r3⟩ := x_round (n := n) hC3 hA hN3 nb.2.2 hdf x (u := t - 1) (by omega) hAf hB' hs (fun k k1 k2 => by show -3000 ≤ (if k < 81 then a k else b k) ∧ (if k < 81 then a k else b k) ≤ 3000; rw [if_pos k1]; exact hs k k1 k2) hn
            rw [show t - 1 + 1 = t by omega] at r2
            have rt := x_roundTrip (n := n) (b := fun k => if k < 81 then a k else b k) hC3 (P := wn A + 1) (by omega) (r2.Bt hA (by omega) r3) hn
            simp (disch := omega) only [mX1_fewest_L21, iL, iI_lt, p0, p1, l9, Option.bind_some, cpN, r1, pts]
            rw [if_neg (by omega)]
            rcases rt with ⟨⟨p, p1', p2⟩, rt⟩ | ⟨p1', rt⟩
            · simp only [rt, Option.bind_some]
              rw [if_neg (by decide)]
              refine Or.inr ⟨_, rfl, t, a', _, rfl, ?_⟩
              obtain ⟨⟨L, l1, l2, l3⟩, -⟩ := r2 p p p1' p1'
              have rn : Rnd A (un x) p L := ⟨p1', l2, by omega⟩
              have := hno p L rn
              exact ⟨⟨p, L, rn, by omega⟩, hno⟩
            · simp only [rt, Option.bind_some, if_true, iI_add]
              refine Or.inl ⟨_, rfl, ⟨t + 1, a', _, by omega, by omega, rfl, r2, r3, fun p L hL => ?_⟩, hm⟩
              have g := hno p L hL
              rcases Nat.lt_or_ge t L.length with z | z
              · exact z
              · have y := (r2 p p hL.1 hL.1).2 L z hL.2.1
                have := p1' p hL.1
                have := hL.2.2
                omega
        · have hd' := hA.1
          rcases Nat.lt_or_ge 0 L.length with z | z
          · exact z
          · have e1 : L = [] := List.eq_nil_of_length_eq_zero (by omega)
            subst e1
            have := hL.2.2
            have e2 : tv A p [] p = fv (day A) p p := rfl
            rw [e2, fv_0] at this
            omega
  · rw [if_neg c, if_pos rfl]
    exact ⟨-1, σ, rfl, h, Fr.refl B σ, Or.inl ⟨Or.inl c, rfl⟩⟩
end X64
