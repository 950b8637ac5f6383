/-! ===== the class: walkers ===== -/
section X67
variable {B n : Nat} {wa : Nat → Nat} {σ : Sg} {A : AS} {D : Nat → Nat → Int} {lk b : Nat} {s : Sg}
theorem iI_s1 (z : Int) : iI z + (1 : Int32) = iI (z + 1) := by rw [iI_1, iI_add]
/-- a world of the search for links: the nets up to lk, the best so far -/
def CW (B : Nat) (wa : Nat → Nat) (σ : Sg) (A : AS) (D : Nat → Nat → Int) (lk b : Nat) (s : Sg) : Prop :=
  St B wa s A ∧ Fr B σ s ∧ (∀ k, k ≤ lk → NetAt s (B + (15 + 2 * k)) (B + (15 + 2 * k + 1)) (wn A + 1) (D k)) ∧ (s.2.2 (B + 11) 3 = .int (iI (wn A)) ∧ s.2.2 (B + 11) 4 = .int (iI b)) ∧ (∃ e, s.2.2 (B + 13) = iz e ∧ ∀ w, w < wn A → e w = wboot (wk A w)) ∧ ∃ e, s.2.2 (B + 14) = iz e ∧ ∀ w, w < wn A → e w = wend (wk A w)
theorem CW.low (h : CW B wa σ A D (lk + 1) b s) : CW B wa σ A D lk b s := ⟨h.1, h.2.1, fun k hk => h.2.2.1 k (by omega), h.2.2.2⟩
theorem CW.swap {D' : Nat → Nat → Int} (h : CW B wa σ A D lk b s) (hD : ∀ k, k ≤ lk → D' k = D k) : CW B wa σ A D' lk b s := ⟨h.1, h.2.1, fun k hk => by rw [hD k hk]; exact h.2.2.1 k hk, h.2.2.2⟩
theorem CW.o (h : CW B wa σ A D lk b s) : s.2.1 (B + 11) = some (0, 5) := h.1.1.sh 11 (by omega)
theorem CW.best (h : CW B wa σ A D lk b s) (b' : Nat) : pV 0 s (B + 11) 4 (.int (iI b')) = some (setF s (B + 11) 4 (.int (iI b'))) ∧ CW B wa σ A D lk b' (setF s (B + 11) 4 (.int (iI b'))) := by
  have s11 := h.o
  obtain ⟨h1, h2, h3, ⟨h4, h5⟩, ⟨e1, h6, h7⟩, e2, h8, h9⟩ := h
  refine ⟨pV_ok s11 (by omega), ⟨h1.1.fr (Fr.setF (by omega) rfl), h1.2.1.but rfl (fun r _ _ _ q _ _ _ _ _ => setF_ne _ _ _ (by omega)), h1.2.2⟩, h2.trans (Fr.setF (by omega) rfl), fun k hk => (h3 k hk).same rfl (setF_ne _ _ _ (by omega)) (setF_ne _ _ _ (by omega)), ⟨?_, setF_self _ _ _ _⟩, ⟨e1, ?_, h7⟩, e2, ?_, h9⟩
  · rw [setF_k _ _ _ (by omega)]; exact h4
  · rw [setF_ne _ _ _ (by omega)]; exact h6
  · rw [setF_ne _ _ _ (by omega)]; exact h8
theorem CW.copy {R : Nat → Nat → Int → Prop} (h : CW B wa σ A D lk b s) (hlk : lk < 6) (hB : NB (wn A + 1) (day A) R (D lk)) : ∃ d', mX4_copy n s (B + (15 + 2 * (lk + 1))) (B + (15 + 2 * lk)) = some (nn B s (15 + 2 * (lk + 1)) (wn A + 1) d') ∧ NB (wn A + 1) (day A) R d' ∧ ∀ e, Bs e → CW B wa σ A (fun k => if k = lk + 1 then e else D k) (lk + 1) b (nn B s (15 + 2 * (lk + 1)) (wn A + 1) e) := by
  have hr : nr (15 + 2 * (lk + 1)) := Or.inl ⟨lk + 1, by omega, rfl⟩
  have h8 := h.1.2.2.2.2.1.1
  obtain ⟨p, e0, hp, hN, hb⟩ := h.1.2.1.at hr
  refine ⟨cpd (D lk) e0, net_copy hN (h.2.2.1 lk (Nat.le_refl lk)) (by omega) (by omega), cpd_NB hB (by omega) hb, fun e he => ?_⟩
  obtain ⟨h1, h2, h3, ⟨h4, h5⟩, ⟨e1, h6, h7⟩, e2, h8', h9⟩ := h
  refine ⟨h1.nn hr hN (by omega) he, h2.trans (nn_fr hr), fun k hk => ?_, ⟨?_, ?_⟩, ⟨e1, ?_, h7⟩, e2, ?_, h9⟩
  · by_cases c : k = lk + 1
    · subst c
      simp only [if_true]
      exact nn_net hN
    · simp only [if_neg c]
      exact (h3 k (by omega)).same rfl (nn_ne (by omega) (by omega)) (nn_ne (by omega) (by omega))
  · rw [nn_ne (by omega) (by omega)]; exact h4
  · rw [nn_ne (by omega) (by omega)]; exact h5
  · rw [nn_ne (by omega) (by omega)]; exact h6
  · rw [nn_ne (by omega) (by omega)]; exact h8'
theorem RC.cnet (h : RC B wa σ A) {k : Nat} (hk : k < 7) : toQ (aV 15 σ (B + 12) (iI k)) = some (some (B + (15 + 2 * k))) := by
  have h4 : σ.2.1 (B + 12) = some (15, 7) := h.sh 12 (by omega)
  rw [aV_ok h4 (by omega) (by omega) (by omega), show ((k : Int)).toNat = k by omega, (h.2.2.1 k hk).1]
  rfl
theorem CW.rd (h : CW B wa σ A D lk b s) {a : Nat} (ha : a < wn A) (h6 : wn A ≤ 6) : toI (aV 11 s (B + 13) (iI a)) = some (iI (wboot (wk A a))) ∧ toI (aV 11 s (B + 14) (iI a)) = some (iI (wend (wk A a))) := by
  have t13 : s.2.1 (B + 13) = some (11, 6) := h.1.1.sh 13 (by omega)
  have t14 : s.2.1 (B + 14) = some (11, 6) := h.1.1.sh 14 (by omega)
  obtain ⟨-, -, -, -, ⟨e1, g1, g2⟩, e2, g3, g4⟩ := h
  refine ⟨?_, ?_⟩
  · rw [aI_ok t13 g1 (by omega) (by omega) (by omega), show ((a : Int)).toNat = a by omega, g2 a ha]
  · rw [aI_ok t14 g3 (by omega) (by omega) (by omega), show ((a : Int)).toNat = a by omega, g4 a ha]
theorem x_mayFollow (h : CW B wa σ A D lk b s) (h6 : wn A ≤ 6) (hD : Bd (D lk)) {a c : Nat} (ha : a < wn A) (hc : c < wn A) : mX0_mayFollow n s (B + 11) (B + (15 + 2 * lk)) (iI a) (iI c) = some (if a ≠ c ∧ wboot (wk A a) = wboot (wk A c) ∧ D lk ((c + 1) * 9 + (a + 1)) + (wend (wk A a) + 1) ≤ 0 then 1 else 0, s) := by
  have hA := h.1.2.2
  have wa1 := hA.2.2.1.2 a ha
  have wc1 := hA.2.2.1.2 c hc
  have we := wend_R wa1
  have b1 := wa1.2.2.1
  have b2 := wc1.2.2.1
  unfold mX0_mayFollow
  rw [isO_ok h.o]
  simp only [Option.bind_some]
  by_cases c0 : a = c
  · rw [if_pos (by rw [c0]), if_neg (fun q => q.1 c0)]
  · rw [if_neg (by rw [iI_eq (by omega) (by omega)]; omega)]
    simp only [gR_ok h.o (show 1 < 5 by omega) (h.1.1.pt 17 rfl), (h.rd ha h6).1, (h.rd hc h6).1, Option.bind_some]
    by_cases c1 : wboot (wk A a) = wboot (wk A c)
    · rw [if_pos (by rw [c1])]
      simp only [mX9_pointOf, Option.bind_some, pt1, gR_ok h.o (show 2 < 5 by omega) (h.1.1.pt 18 rfl), (h.rd ha h6).2, iI_s1 (wend (wk A a)), net_fits (h.2.2.1 lk (Nat.le_refl lk)) (show wn A + 1 ≤ 9 by omega) (show c + 1 < wn A + 1 by omega) (show a + 1 < wn A + 1 by omega) hD (show -100000000 ≤ wend (wk A a) + 1 ∧ wend (wk A a) + 1 ≤ 100000000 by omega)]
      by_cases c2 : D lk ((c + 1) * 9 + (a + 1)) + (wend (wk A a) + 1) ≤ 0
      · rw [if_pos c2, if_neg (by decide), if_pos ⟨c0, c1, c2⟩]
      · rw [if_neg c2, if_pos (by decide), if_neg (fun q => c2 q.2.2)]
    · rw [if_neg (by rw [iI_eq (by omega) (by omega)]; omega), if_neg (fun q => c1 q.2.1)]
/-- a reached number of links -/
def Rch (A : AS) (S k : Nat) : Prop := ∃ nx, lkV A S nx ∧ cntO nx (wn A) = k
theorem x_link (h6 : wn A ≤ 6) (S : Nat) (hn : 100000 ≤ n) : ∀ (d : Nat) (walk : Nat) (nx : Nat → Option Nat) (D : Nat → Nat → Int) (b : Nat) (s : Sg) (fol : Int32) (L : Nat), L = cntO nx walk → wn A < d + walk → walk ≤ wn A → (∀ a, walk ≤ a → nx a = none) → lkW A nx walk → CW B wa σ A D L b s → (∀ y, y < 32 → (bt (un fol) y ↔ ∃ a, a < walk ∧ nx a = some y)) → NB (wn A + 1) (day A) (lkR A S nx walk) (D L) → b ≤ 6 →
    ∃ s' b', mX0_link n d s (B + 11) (iI walk) (iI L) fol = some s' ∧ CW B wa σ A D L b' s' ∧ b ≤ b' ∧ b' ≤ 6 ∧ (b' = b ∨ Rch A S b') ∧ ∀ nx', lkV A S nx' → (∀ a, a < walk → nx' a = nx a) → cntO nx' (wn A) ≤ b' := by
  intro d
  induction d with
  | zero => intro walk nx D b s fol L hL hd hwk; omega
  | succ d ih =>
    intro walk nx D b s fol L hL hd hwk hno hW hC hF hB hb
    have hA := hC.1.2.2
    have dd := hA.1.2.2.2.2
    have hlk := cntO_lt nx walk
    rw [← hL] at hlk
    obtain ⟨m, hm⟩ : ∃ m : Nat, (m : Int) = max (b : Int) (L : Int) := ⟨(max (b : Int) (L : Int)).toNat, by omega⟩
    obtain ⟨p1, C1⟩ := hC.best m
    have hj : jmax (iI (b : Int)) (iI (L : Int)) = iI (m : Int) := by rw [jmax_iI (RI.sm (by omega) (by omega)) (RI.sm (by omega) (by omega)), hm]
    have valid : lkV A S nx := by
      have low : ∀ a c, nx a = some c → a < walk := fun a c q => by
        rcases Nat.lt_or_ge a walk with z | z
        · exact z
        · rw [hno a z] at q; cases q
      refine ⟨fun a c ha q => ?_, mat (D L), (CM.iff (lkR_stop hno hwk) _).mpr hB.1.1⟩
      obtain ⟨q1, q2, q3, q4⟩ := hW a c (low a c q) q
      exact ⟨q1, q2, q3, fun c' _ q' => q4 c' (low c' c q') q'⟩
    have hcn : cntO nx (wn A) = L := by rw [cntO_stop nx walk hno _ hwk, hL]
    have ach : m = b ∨ Rch A S m := by
      by_cases z : m = b
      · exact Or.inl z
      · exact Or.inr ⟨nx, valid, by omega⟩
    generalize hs2 : setF s (B + 11) 4 (.int (iI (m : Int))) = s2 at p1 C1
    have g3 := gI_ok C1.o (show 3 < 5 by omega) C1.2.2.2.1.1
    simp only [mX0_link, eX0_link, isO_ok hC.o, Option.bind_some, gI_ok hC.o (show 4 < 5 by omega) hC.2.2.2.1.2, hj, p1, g3, gI_ok C1.o (show 4 < 5 by omega) C1.2.2.2.1.2, iI_add, iI_sub]
    by_cases c : (L : Int) + wn A - walk ≤ m
    · rw [if_pos (by rw [iI_le (by omega) (by omega)]; exact c)]
      have e : mX0_link_32 n (mX0_link n d) s2 0 (B + 11) (iI walk) (iI L) fol = some s2 := by
        simp only [mX0_link_32, g3, Option.bind_some, if_true]
        split <;> rfl
      refine ⟨s2, m, e, C1, by omega, by omega, ach, fun nx' v' ag => ?_⟩
      have q1 := cntO_le nx' walk (wn A) hwk
      have q2 := cntO_congr walk ag
      omega
    · rw [if_neg (by rw [iI_le (by omega) (by omega)]; exact c)]
      have hlt : walk < wn A := by omega
      have wW := wend_R (hA.2.2.1.2 walk hlt)
      have t12 : s2.2.1 (B + 12) = some (15, 7) := C1.1.1.sh 12 (by omega)
      simp only [mX0_link_32, g3, Option.bind_some, gR_ok C1.o (show 0 < 5 by omega) (C1.1.1.pt 16 rfl), lenA_ok t12, pt1, C1.1.1.cnet (show L + 1 < 7 by omega)]
      rw [if_neg (by rw [iI_le (by omega) (by omega)]; omega), if_neg (by decide), if_pos (by rw [iI_lt (by omega) (by omega)]; omega)]
      have key := loop_inv (body := mX0_link_L72 n (mX0_link n d) (B + 11) (iI walk) (iI L) fol (B + (15 + 2 * (L + 1))))
        (fun c => ∃ (t b1 : Nat), c.2 = iI t ∧ t ≤ wn A ∧ CW B wa σ A D L b1 c.1 ∧ m ≤ b1 ∧ b1 ≤ 6 ∧ (b1 = b ∨ Rch A S b1) ∧ ∀ y nx', y < t → lkV A S nx' → (∀ a, a < walk → nx' a = nx a) → nx' walk = some y → cntO nx' (wn A) ≤ b1)
        (fun c => wn A - c.2.toNatClampNeg)
        (fun s => ∃ b1, CW B wa σ A D L b1 s ∧ m ≤ b1 ∧ b1 ≤ 6 ∧ (b1 = b ∨ Rch A S b1) ∧ ∀ y nx', y < wn A → lkV A S nx' → (∀ a, a < walk → nx' a = nx a) → nx' walk = some y → cntO nx' (wn A) ≤ b1)
        ?_ n (s2, (0 : Int32)) ⟨0, m, rfl, by omega, C1, by omega, by omega, ach, fun y _ hy => by omega⟩ (by show wn A - (0 : Int32).toNatClampNeg < n; omega)
      · obtain ⟨s5, k1, b5, C5, m5, l5, a5, all5⟩ := key
        simp only [k1, Option.bind_some]
        have nw : nx walk = none := hno walk (Nat.le_refl _)
        have cL : L = cntO nx (walk + 1) := by
          show L = if (nx walk).isSome then _ else _
          rw [nw]
          exact hL
        have low : ∀ a c, a < walk + 1 → nx a = some c → a < walk := fun a c ha q => by
          rcases Nat.lt_or_ge a walk with z | z
          · exact z
          · rw [hno a z] at q; cases q
        obtain ⟨s6, b6, r1, C6, m6, l6, a6, all6⟩ := ih (walk + 1) nx D b5 s5 fol L cL (by omega) (by omega) (fun a ha => hno a (by omega))
          (fun a c ha q => by
            obtain ⟨q1, q2, q3, q4⟩ := hW a c (low a c ha q) q
            exact ⟨q1, q2, q3, fun c' hc' q' => q4 c' (low c' c hc' q') q'⟩) C5
          (fun y hy => by
            rw [hF y hy]
            constructor
            · rintro ⟨a, a1, a2⟩; exact ⟨a, by omega, a2⟩
            · rintro ⟨a, a1, a2⟩; exact ⟨a, low a y a1 a2, a2⟩)
          (hB.iff (fun i j v => (lkR_stop hno (by omega) i j v).symm)) l5
        rw [r1]
        simp only [Option.bind_some]
        refine ⟨s6, b6, rfl, C6, by omega, l6, ?_, fun nx' v' ag => ?_⟩
        · rcases a6 with z | z
          · rw [z]; exact a5
          · exact Or.inr z
        · cases hq : nx' walk with
          | none =>
            refine all6 nx' v' (fun a ha => ?_)
            by_cases z : a = walk
            · rw [z, hq, nw]
            · exact ag a (by omega)
          | some y =>
            have := all5 y nx' (v'.1 walk y hlt hq).1 v' ag hq
            omega
      · rintro ⟨s', x'⟩ ⟨t, b1, hx, ht, C', m1, l1, a1, all1⟩
        simp only at hx C'
        subst hx
        have g3' := gI_ok C'.o (show 3 < 5 by omega) C'.2.2.2.1.1
        by_cases ct : t = wn A
        · subst ct
          refine Or.inr ⟨s', ?_, b1, C', m1, l1, a1, all1⟩
          simp only [mX0_link_L72, g3', Option.bind_some]
          rw [if_pos (by rw [iI_le (by omega) (by omega)]; omega)]
        · have ht2 : t < wn A := by omega
          have mu : ∀ z : Sg, wn A - (z, iI ((t + 1 : Nat) : Int)).2.toNatClampNeg < wn A - (s', iI (t : Int)).2.toNatClampNeg := fun z => by
            show wn A - (iI ((t + 1 : Nat) : Int)).toNatClampNeg < wn A - (iI (t : Int)).toNatClampNeg
            rw [iI_clamp (by omega) (by omega), iI_clamp (by omega) (by omega)]
            omega
          simp only [mX0_link_L72, g3', Option.bind_some, mX0_link_156, pt1, x_isIn fol (show t < 32 by omega)]
          rw [if_neg (by rw [iI_le (by omega) (by omega)]; omega)]
          by_cases cb : bt (un fol) t
          · rw [if_pos cb, if_neg (by decide)]
            refine Or.inl ⟨_, rfl, ⟨t + 1, b1, rfl, by omega, C', m1, l1, a1, fun y nx' hy v' ag hq => ?_⟩, mu s'⟩
            by_cases z : y = t
            · subst z
              obtain ⟨a, q1, q2⟩ := (hF y (by omega)).mp cb
              have := (v'.1 walk y hlt hq).2.2.2 a (by omega) (by rw [ag a q1]; exact q2)
              omega
            · exact all1 y nx' (by omega) v' ag hq
          · rw [if_neg cb, if_pos (by decide)]
            simp only [gR_ok C'.o (show 0 < 5 by omega) (C'.1.1.pt 16 rfl), Option.bind_some, C'.1.1.cnet (show L < 7 by omega), x_mayFollow C' h6 hB.Bd hlt ht2]
            by_cases cf : walk ≠ t ∧ wboot (wk A walk) = wboot (wk A t) ∧ D L ((t + 1) * 9 + (walk + 1)) + (wend (wk A walk) + 1) ≤ 0
            · rw [if_pos cf, if_neg (by decide)]
              obtain ⟨d', k1, k2, k3⟩ := C'.copy (n := n) (show L < 6 by omega) hB
              have C2 := k3 d' k2.2.2
              have N2 := C2.2.2.1 (L + 1) (Nat.le_refl _)
              simp only [if_true] at N2
              have e1 : d' ((t + 1) * 9 + (walk + 1)) = D L ((t + 1) * 9 + (walk + 1)) := k2.1.unique hB.1 (show t + 1 < wn A + 1 by omega) (show walk + 1 < wn A + 1 by omega)
              have fits : d' ((t + 1) * 9 + (walk + 1)) + (wend (wk A walk) + 1) ≤ 0 := by rw [e1]; exact cf.2.2
              have B3 := k2.add ⟨by omega, by omega⟩ (by omega) (show t + 1 < wn A + 1 by omega) (show walk + 1 < wn A + 1 by omega) fits
              have tk := net_takesGap' (n := n) N2 k2 (show t + 1 < wn A + 1 by omega) (show walk + 1 < wn A + 1 by omega) (by omega) (show -100000000 ≤ wend (wk A walk) + 1 ∧ wend (wk A walk) + 1 ≤ 100000000 by omega) hn
              rw [if_pos fits, if_pos fits, nn_set] at tk
              have C3 := k3 _ B3.2.2
              simp only [k1, Option.bind_some, mX9_pointOf, pt1, gR_ok C2.o (show 2 < 5 by omega) (C2.1.1.pt 18 rfl), (C2.rd hlt h6).2, iI_s1 (wend (wk A walk)), tk]
              obtain ⟨s4, b4, r1, C4, m4, l4, a4, all4⟩ := ih (walk + 1) (setO nx walk t) _ b1 _ (fol ||| ((1 : Int32) <<< (iI (t : Int) &&& 31))) (L + 1)
                (by
                  show L + 1 = if (setO nx walk t walk).isSome then cntO (setO nx walk t) walk + 1 else cntO (setO nx walk t) walk
                  rw [cntO_congr (g := nx) walk (fun a ha => by unfold setO; rw [if_neg (by omega)]), ← hL]
                  unfold setO
                  rw [if_pos rfl]
                  rfl) (by omega) (by omega) (fun a ha => by unfold setO; rw [if_neg (by omega)]; exact hno a (by omega))
                (fun a c ha q => by
                  by_cases z : a = walk
                  · subst z
                    unfold setO at q
                    rw [if_pos rfl] at q
                    cases q
                    refine ⟨ht2, fun z => cf.1 z.symm, cf.2.1, fun c' hc' q' => ?_⟩
                    by_cases z' : c' = a
                    · exact z'
                    · unfold setO at q'
                      rw [if_neg z'] at q'
                      exact absurd ((hF t (by omega)).mpr ⟨c', by omega, q'⟩) cb
                  · unfold setO at q
                    rw [if_neg z] at q
                    obtain ⟨q1, q2, q3, q4⟩ := hW a c (by omega) q
                    refine ⟨q1, q2, q3, fun c' hc' q' => ?_⟩
                    by_cases z' : c' = walk
                    · subst z'
                      unfold setO at q'
                      rw [if_pos rfl] at q'
                      cases q'
                      exact absurd ((hF t (by omega)).mpr ⟨a, by omega, q⟩) cb
                    · unfold setO at q'
                      rw [if_neg z'] at q'
                      exact q4 c' (by omega) q') C3
                (fun y hy => by
                  rw [un_orb fol (show t < 32 by omega), bt_or, hF y hy]
                  constructor
                  · rintro (⟨a, a1, a2⟩ | rfl)
                    · exact ⟨a, by omega, by unfold setO; rw [if_neg (by omega)]; exact a2⟩
                    · exact ⟨walk, by omega, by unfold setO; rw [if_pos rfl]⟩
                  · rintro ⟨a, a1, a2⟩
                    unfold setO at a2
                    by_cases z : a = walk
                    · rw [if_pos z] at a2; cases a2; exact Or.inr rfl
                    · rw [if_neg z] at a2; exact Or.inl ⟨a, by omega, a2⟩)
                (by
                  simp only [if_true]
                  exact B3.iff (fun i j v => (lkR_set i j v).symm)) l1
              rw [r1]
              simp only [Option.bind_some]
              refine Or.inl ⟨_, rfl, ⟨t + 1, b4, rfl, by omega, C4.low.swap (fun k hk => by simp only [if_neg (show ¬ k = L + 1 by omega)]), by omega, l4, ?_, fun y nx' hy v' ag hq => ?_⟩, mu s4⟩
              · rcases a4 with z | z
                · rw [z]; exact a1
                · exact Or.inr z
              · by_cases z : y = t
                · subst z
                  refine all4 nx' v' (fun a ha => ?_)
                  unfold setO
                  by_cases z : a = walk
                  · rw [if_pos z, z, hq]
                  · rw [if_neg z]; exact ag a (by omega)
                · have := all1 y nx' (by omega) v' ag hq
                  omega
            · rw [if_neg cf, if_pos (by decide)]
              refine Or.inl ⟨_, rfl, ⟨t + 1, b1, rfl, by omega, C', m1, l1, a1, fun y nx' hy v' ag hq => ?_⟩, mu s'⟩
              by_cases z : y = t
              · subst z
                exfalso
                obtain ⟨q1, q2, q3, q4⟩ := v'.1 walk y hlt hq
                obtain ⟨Y, hY⟩ := v'.2
                have nf : 0 < mat (D L) (y + 1) (walk + 1) + (wend (wk A walk) + 1) := by
                  show 0 < D L ((y + 1) * 9 + (walk + 1)) + (wend (wk A walk) + 1)
                  rcases Int.lt_or_le 0 (D L ((y + 1) * 9 + (walk + 1)) + (wend (wk A walk) + 1)) with z | z
                  · exact z
                  · exact absurd ⟨fun z => q2 z.symm, q3, z⟩ cf
                refine hB.1.bad (show y + 1 < wn A + 1 by omega) (show walk + 1 < wn A + 1 by omega) nf Y (hY.mono (fun i j v _ _ hr => ?_))
                rcases hr with (hr | ⟨a, c, u1, u2, u3⟩) | ⟨u1, u2, u3⟩
                · exact Or.inl hr
                · exact Or.inr ⟨a, c, by omega, by rw [ag a u1]; exact u2, u3⟩
                · exact Or.inr ⟨walk, y, hlt, hq, u1, u2, u3⟩
              · exact all1 y nx' (by omega) v' ag hq
end X67
