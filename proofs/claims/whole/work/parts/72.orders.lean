/-! ===== the class: orders ===== -/
theorem and7 {s : Nat} (hs : s < 2147483648) : iI (s : Int) &&& (7 : Int32) = iI ((s % 8 : Nat) : Int) := by
  have h := pk_and (iI (s : Int)) (m := (7 : Int32)) 3 rfl
  have e1 : (iI (s : Int)).toBitVec.toNat = s := un_iI (by omega)
  rw [h, e1]
  exact iI_nat _
section X72
variable {B n : Nat} {wa : Nat → Nat} {σ : Sg} {A : AS} {D : Nat → Nat → Int} {lk : Nat} {wt : Int} {cs : Nat × Int} {s : Sg}
/-- a world of the search for rows -/
def OW (B : Nat) (wa : Nat → Nat) (σ : Sg) (A : AS) (D : Nat → Nat → Int) (lk : Nat) (wt : Int) (cs : Nat × Int) (s : Sg) : Prop :=
  St B wa s A ∧ Fr B σ s ∧ (∀ k, k ≤ lk → k < wn A → NetAt s (B + (31 + 2 * k)) (B + (31 + 2 * k + 1)) (wn A + 1) (D k)) ∧ s.2.2 (B + 29) 1 = .int (iI (wn A)) ∧ s.2.2 (B + 29) 2 = .int (iI wt) ∧ s.2.2 (B + 29) 3 = .int (iI cs.1) ∧ s.2.2 (B + 29) 4 = .int (iI cs.2)
theorem OW.low (h : OW B wa σ A D (lk + 1) wt cs s) : OW B wa σ A D lk wt cs s := ⟨h.1, h.2.1, fun k hk => h.2.2.1 k (by omega), h.2.2.2⟩
theorem OW.swap {D' : Nat → Nat → Int} (h : OW B wa σ A D lk wt cs s) (hD : ∀ k, k ≤ lk → D' k = D k) : OW B wa σ A D' lk wt cs s := ⟨h.1, h.2.1, fun k hk hw => by rw [hD k hk]; exact h.2.2.1 k hk hw, h.2.2.2⟩
theorem OW.o (h : OW B wa σ A D lk wt cs s) : s.2.1 (B + 29) = some (6, 5) := h.1.1.sh 29 (by omega)
theorem OW.put (h : OW B wa σ A D lk wt cs s) (j : Nat) (v : Int) (hj : j = 3 ∨ j = 4) : pV 6 s (B + 29) j (.int (iI v)) = some (setF s (B + 29) j (.int (iI v))) ∧ ∀ cs' : Nat × Int, (j = 3 → (cs'.1 : Int) = v ∧ cs'.2 = cs.2) → (j = 4 → cs'.2 = v ∧ cs'.1 = cs.1) → OW B wa σ A D lk wt cs' (setF s (B + 29) j (.int (iI v))) := by
  have s29 := h.o
  obtain ⟨h1, h2, h3, h4, h5, h6, h7⟩ := h
  have sj : sp 29 j = true := by rcases hj with rfl | rfl <;> rfl
  refine ⟨pV_ok s29 (by omega), fun cs' c3 c4 => ⟨⟨h1.1.fr (Fr.setF (by omega) sj), h1.2.1.but rfl (fun r _ _ _ _ _ q _ _ _ => setF_ne _ _ _ (by omega)), h1.2.2⟩, h2.trans (Fr.setF (by omega) sj), fun k hk hw => (h3 k hk hw).same rfl (setF_ne _ _ _ (by omega)) (setF_ne _ _ _ (by omega)), ?_, ?_, ?_, ?_⟩⟩
  · rw [setF_k _ _ _ (by omega)]; exact h4
  · rw [setF_k _ _ _ (by omega)]; exact h5
  · rcases hj with rfl | rfl
    · rw [setF_self, (c3 rfl).1]
    · rw [setF_k _ _ _ (by omega), (c4 rfl).2]; exact h6
  · rcases hj with rfl | rfl
    · rw [setF_k _ _ _ (by omega), (c3 rfl).2]; exact h7
    · rw [setF_self, (c4 rfl).1]
theorem OW.copy {R : Nat → Nat → Int → Prop} (h : OW B wa σ A D lk wt cs s) (h6 : wn A ≤ 6) (hlk : lk + 1 < wn A) (hB : NB (wn A + 1) (day A) R (D lk)) : ∃ d', mX4_copy n s (B + (31 + 2 * (lk + 1))) (B + (31 + 2 * lk)) = some (nn B s (31 + 2 * (lk + 1)) (wn A + 1) d') ∧ NB (wn A + 1) (day A) R d' ∧ ∀ e, Bs e → OW B wa σ A (fun k => if k = lk + 1 then e else D k) (lk + 1) wt cs (nn B s (31 + 2 * (lk + 1)) (wn A + 1) e) := by
  have hr : nr (31 + 2 * (lk + 1)) := Or.inr ⟨lk + 1, by omega, rfl⟩
  obtain ⟨p, e0, hp, hN, hb⟩ := h.1.2.1.at hr
  refine ⟨cpd (D lk) e0, net_copy hN (h.2.2.1 lk (Nat.le_refl lk) (by omega)) (by omega) (by omega), cpd_NB hB (by omega) hb, fun e he => ?_⟩
  obtain ⟨h1, h2, h3, h4, h5, h7, h8⟩ := h
  refine ⟨h1.nn hr hN (by omega) he, h2.trans (nn_fr hr), fun k hk hw => ?_, ?_, ?_, ?_, ?_⟩
  · by_cases c : k = lk + 1
    · subst c
      simp only [if_true]
      exact nn_net hN
    · simp only [if_neg c]
      exact (h3 k (by omega) hw).same rfl (nn_ne (by omega) (by omega)) (nn_ne (by omega) (by omega))
  · rw [nn_ne (by omega) (by omega)]; exact h4
  · rw [nn_ne (by omega) (by omega)]; exact h5
  · rw [nn_ne (by omega) (by omega)]; exact h7
  · rw [nn_ne (by omega) (by omega)]; exact h8
theorem RC.onet (h : RC B wa σ A) {k : Nat} (hk : k < 6) : toQ (aV 15 σ (B + 30) (iI k)) = some (some (B + (31 + 2 * k))) := by
  have h4 : σ.2.1 (B + 30) = some (15, 6) := h.sh 30 (by omega)
  rw [aV_ok h4 (by omega) (by omega) (by omega), show ((k : Int)).toNat = k by omega, (h.2.2.2.1 k hk).1]
  rfl
theorem x_rises {S k w : Nat} {p : Nat → Nat} (h : OW B wa σ A D k wt cs s) (h6 : wn A ≤ 6) (hk : k < wn A) (hw : w < wn A) (hp : ∀ t, t < k → p t < wn A) (hB : NB (wn A + 1) (day A) (ordR A S p k) (D k)) (hn : 100000 ≤ n) :
    (feas A S (setP p k w) (k + 1) ∧ ∃ s' D', mX6_rises n s (B + 29) (iI k) (iI (numP p k)) (iI w) = some (iI 1, s') ∧ OW B wa σ A D' (k + 1) wt cs s' ∧ (∀ j, j ≤ k → D' j = D j) ∧ (k + 1 < wn A → NB (wn A + 1) (day A) (ordR A S (setP p k w) (k + 1)) (D' (k + 1)))) ∨ (¬ feas A S (setP p k w) (k + 1) ∧ mX6_rises n s (B + 29) (iI k) (iI (numP p k)) (iI w) = some (iI 0, s)) := by
  have dd := h.1.2.2.1.2.2.2.2
  have nl := numP_lt (p := p) k (fun t ht => by have := hp t ht; omega)
  have n8 := pow8 (show k ≤ 6 by omega)
  have hq : iI (numP p k : Int) &&& (7 : Int32) = iI ((numP p k % 8 : Nat) : Int) := and7 (by omega)
  have g1 := gI_ok h.o (show 1 < 5 by omega) h.2.2.2.1
  have g0 := gR_ok h.o (show 0 < 5 by omega) (h.1.1.pt 19 rfl)
  unfold mX6_rises
  simp only [isO_ok h.o, Option.bind_some, mX9_pointOf, hq, pt1]
  by_cases c0 : k = 0
  · have ck : iI (k : Int) ≤ 0 := by rw [iI_0, iI_le (by omega) (by omega)]; omega
    rw [if_pos ck]
    left
    have fe : feas A S (setP p k w) (k + 1) := ⟨mat (D k), (CM.iff (fun i j v => (ordR_1 (by omega) i j v).trans (ordR_1 (p := p) (k := k) (by omega) i j v).symm) _).mpr hB.1.1⟩
    refine ⟨fe, ?_⟩
    by_cases c1 : k + 1 < wn A
    · obtain ⟨d', k1, k2, k3⟩ := h.copy (n := n) h6 c1 hB
      refine ⟨_, _, ?_, k3 d' k2.2.2, fun j hj => by simp only [if_neg (show ¬ j = k + 1 by omega)], fun _ => by
        simp only [if_true]
        exact k2.iff (fun i j v => (ordR_1 (p := p) (k := k) (by omega) i j v).trans (ordR_1 (by omega) i j v).symm)⟩
      simp only [mX6_rises_38, g1, Option.bind_some, pt1, g0, h.1.1.onet (show k + 1 < 6 by omega), h.1.1.onet (show k < 6 by omega), k1]
      rw [if_neg (by rw [iI_le (by omega) (by omega)]; omega), if_pos ck]
      rfl
    · refine ⟨s, D, ?_, ⟨h.1, h.2.1, fun j hj hw' => h.2.2.1 j (by omega) hw', h.2.2.2⟩, fun _ _ => rfl, fun z => absurd z c1⟩
      simp only [mX6_rises_38, g1, Option.bind_some, pt1]
      rw [if_pos (by rw [iI_le (by omega) (by omega)]; omega)]
      rfl
  · have ck : ¬ iI (k : Int) ≤ 0 := by rw [iI_0, iI_le (by omega) (by omega)]; omega
    rw [if_neg ck]
    obtain ⟨k', rfl⟩ : ∃ k', k = k' + 1 := ⟨k - 1, by omega⟩
    have pk := hp k' (by omega)
    have lst : numP p (k' + 1) % 8 = p k' := by
      show (8 * numP p k' + p k') % 8 = p k'
      omega
    rw [lst]
    have N := h.2.2.1 (k' + 1) (Nat.le_refl _) hk
    have ft := net_fits (n := n) N (show wn A + 1 ≤ 9 by omega) (show w + 1 < wn A + 1 by omega) (show p k' + 1 < wn A + 1 by omega) hB.Bd (show -100000000 ≤ (1 : Int) ∧ (1 : Int) ≤ 100000000 by omega)
    rw [← iI_1] at ft
    simp only [g0, Option.bind_some, h.1.1.onet (show k' + 1 < 6 by omega), ft]
    by_cases cf : D (k' + 1) ((w + 1) * 9 + (p k' + 1)) + 1 ≤ 0
    · rw [if_pos cf, if_neg (by decide)]
      left
      have B1 := hB.1.add (show w + 1 < wn A + 1 by omega) (show p k' + 1 < wn A + 1 by omega) (show mat (D (k' + 1)) (w + 1) (p k' + 1) + 1 ≤ 0 from cf)
      have fe : feas A S (setP p (k' + 1) w) (k' + 1 + 1) := ⟨_, (CM.iff (fun i j v => ordR_set (by omega) i j v) _).mpr B1.1⟩
      refine ⟨fe, ?_⟩
      by_cases c1 : k' + 1 + 1 < wn A
      · obtain ⟨d', k1, k2, k3⟩ := h.copy (n := n) h6 c1 hB
        have C2 := k3 d' k2.2.2
        have N2 := C2.2.2.1 (k' + 1 + 1) (Nat.le_refl _) c1
        simp only [if_true] at N2
        have e1 : d' ((w + 1) * 9 + (p k' + 1)) = D (k' + 1) ((w + 1) * 9 + (p k' + 1)) := k2.1.unique hB.1 (show w + 1 < wn A + 1 by omega) (show p k' + 1 < wn A + 1 by omega)
        have fits : d' ((w + 1) * 9 + (p k' + 1)) + 1 ≤ 0 := by rw [e1]; exact cf
        have B3 := k2.add ⟨by omega, by omega⟩ (by omega) (show w + 1 < wn A + 1 by omega) (show p k' + 1 < wn A + 1 by omega) fits
        have tk := net_takesGap' (n := n) N2 k2 (show w + 1 < wn A + 1 by omega) (show p k' + 1 < wn A + 1 by omega) (by omega) (show -100000000 ≤ (1 : Int) ∧ (1 : Int) ≤ 100000000 by omega) hn
        rw [if_pos fits, if_pos fits, nn_set, ← iI_1] at tk
        refine ⟨_, _, ?_, k3 _ B3.2.2, fun j hj => by simp only [if_neg (show ¬ j = k' + 1 + 1 by omega)], fun _ => by
          simp only [if_true]
          exact B3.iff (fun i j v => (ordR_set (by omega) i j v).symm)⟩
        simp only [mX6_rises_38, g1, Option.bind_some, pt1, g0, h.1.1.onet (show k' + 1 + 1 < 6 by omega), h.1.1.onet (show k' + 1 < 6 by omega), k1, tk]
        rw [if_neg (by rw [iI_le (by omega) (by omega)]; omega), if_neg ck]
        rfl
      · refine ⟨s, D, ?_, ⟨h.1, h.2.1, fun j hj hw' => h.2.2.1 j (by omega) hw', h.2.2.2⟩, fun _ _ => rfl, fun z => absurd z c1⟩
        simp only [mX6_rises_38, g1, Option.bind_some, pt1]
        rw [if_pos (by rw [iI_le (by omega) (by omega)]; omega)]
        rfl
    · rw [if_neg cf, if_pos (by decide)]
      right
      refine ⟨?_, rfl⟩
      rintro ⟨Y, hY⟩
      exact hB.1.bad (show w + 1 < wn A + 1 by omega) (show p k' + 1 < wn A + 1 by omega) (show 0 < mat (D (k' + 1)) (w + 1) (p k' + 1) + 1 by show 0 < D (k' + 1) ((w + 1) * 9 + (p k' + 1)) + 1; omega) Y ((CM.iff (fun i j v => ordR_set (by omega) i j v) _).mp hY)
/-- the class's count and find beside the whole enumeration's -/
def Rl (wt : Int) (cs st : Nat × Int) : Prop := cs.2 = st.2 ∧ (st.2 = -1 → cs.1 = st.1) ∧ (st.2 ≠ -1 → wt < st.1) ∧ cs.1 ≤ 100000
theorem oF_from {g : Nat → Nat × Int → Nat × Int} (P : Nat × Int → Prop) {st : Nat × Int} {t : Nat} (h0 : P (oF g t st)) (h : ∀ w st, P st → P (g w st)) : ∀ m, t ≤ m → P (oF g m st)
  | 0, hm => by rw [show t = 0 by omega] at h0; exact h0
  | m + 1, hm => by
    by_cases c : t = m + 1
    · subst c; exact h0
    · unfold oF
      exact h m _ (oF_from P h0 h m (by omega))
theorem x_extend (h6 : wn A ≤ 6) (S : Nat) (hwt : RI wt) (hn : 100000 ≤ n) : ∀ (d r k : Nat) (p : Nat → Nat) (D : Nat → Nat → Int) (st : Nat × Int) (s : Sg) (mask : Int32), k + r = wn A → r < d → (∀ t, t < k → p t < wn A) → feas A S p k → OW B wa σ A D k wt st s → (k < wn A → NB (wn A + 1) (day A) (ordR A S p k) (D k)) → (∀ y, y < 32 → (bt (un mask) y ↔ usd p k y)) → st.2 = -1 → st.1 + 6 ^ r ≤ 100000 →
    ∃ s' cs', mX6_extend n d s (B + 29) (iI k) mask (iI (numP p k)) = some s' ∧ OW B wa σ A D k wt cs' s' ∧ Rl wt cs' (oE A S wt r k p st) := by
  intro d
  induction d with
  | zero => intro r k p D st s mask hk hd; omega
  | succ d ih =>
    intro r k p D st s mask hk hd hp hf hO hB hM h1 hb
    have g1 := gI_ok hO.o (show 1 < 5 by omega) hO.2.2.2.1
    simp only [mX6_extend, eX6_extend, isO_ok hO.o, Option.bind_some, g1]
    cases r with
    | zero =>
      rw [if_neg (by rw [iI_lt (by omega) (by omega)]; omega)]
      have hb' : st.1 + 1 ≤ 100000 := hb
      simp only [gI_ok hO.o (show 3 < 5 by omega) hO.2.2.2.2.2.1, gI_ok hO.o (show 2 < 5 by omega) hO.2.2.2.2.1, Option.bind_some]
      have kw : k = wn A := by omega
      subst kw
      have eo : oE A S wt 0 (wn A) p st = (st.1 + 1, if (st.1 : Int) = wt then (numP p (wn A) : Int) else st.2) := lf_yes hf st
      rw [eo]
      by_cases c : (st.1 : Int) = wt
      · rw [if_pos (by rw [c]), if_pos c]
        obtain ⟨p1, q1⟩ := hO.put 4 (numP p (wn A)) (Or.inr rfl)
        have O1 := q1 (st.1, (numP p (wn A) : Int)) (fun z => by omega) (fun _ => ⟨rfl, rfl⟩)
        obtain ⟨p2, q2⟩ := O1.put 3 ((st.1 : Int) + 1) (Or.inl rfl)
        have O2 := q2 (st.1 + 1, (numP p (wn A) : Int)) (fun _ => ⟨rfl, rfl⟩) (fun z => by omega)
        refine ⟨_, _, ?_, O2, rfl, fun _ => rfl, fun _ => by show wt < ((st.1 + 1 : Nat) : Int); omega, hb'⟩
        simp only [p1, Option.bind_some, mX6_extend_24, gI_ok O1.o (show 3 < 5 by omega) O1.2.2.2.2.2.1, iI_1, iI_add, p2]
      · unfold RI at hwt
        rw [if_neg (by rw [iI_eq (by omega) (by omega)]; exact c), if_neg c]
        obtain ⟨p2, q2⟩ := hO.put 3 ((st.1 : Int) + 1) (Or.inl rfl)
        have O2 := q2 (st.1 + 1, st.2) (fun _ => ⟨rfl, rfl⟩) (fun z => by omega)
        refine ⟨_, _, ?_, O2, rfl, fun _ => rfl, fun z => absurd h1 z, hb'⟩
        simp only [Option.bind_some, mX6_extend_24, gI_ok hO.o (show 3 < 5 by omega) hO.2.2.2.2.2.1, iI_1, iI_add, p2]
    | succ r =>
      rw [if_pos (by rw [iI_lt (by omega) (by omega)]; omega)]
      have hkw : k < wn A := by omega
      have pw : 6 ^ (r + 1) = 6 ^ r * 6 := by rw [Nat.pow_succ]
      generalize hG : oG p k (fun q s => oE A S wt r (k + 1) q s) = G
      have eo : oE A S wt (r + 1) k p st = oF G (wn A) st := by rw [← hG]; rfl
      rw [eo]
      have key := loop_inv (body := mX6_extend_L38 n (mX6_extend n d) (B + 29) (iI k) mask (iI (numP p k)))
        (fun c => ∃ (t : Nat) (cs1 : Nat × Int), c.2 = iI t ∧ t ≤ wn A ∧ OW B wa σ A D k wt cs1 c.1 ∧ Rl wt cs1 (oF G t st)) (fun c => wn A - c.2.toNatClampNeg)
        (fun s => ∃ cs1, OW B wa σ A D k wt cs1 s ∧ Rl wt cs1 (oF G (wn A) st)) ?_ n (s, (0 : Int32)) ⟨0, st, rfl, by omega, hO, rfl, fun _ => rfl, fun z => absurd h1 z, by omega⟩ (by show wn A - (0 : Int32).toNatClampNeg < n; omega)
      · obtain ⟨s5, k1, cs5, k2, k3⟩ := key
        simp only [k1, Option.bind_some]
        exact ⟨s5, cs5, rfl, k2, k3⟩
      · rintro ⟨s', x'⟩ ⟨t, cs1, hx, ht, O1, R1⟩
        simp only at hx O1
        subst hx
        have g1' := gI_ok O1.o (show 1 < 5 by omega) O1.2.2.2.1
        by_cases ct : t = wn A
        · subst ct
          refine Or.inr ⟨s', ?_, cs1, O1, R1⟩
          simp only [mX6_extend_L38, g1', Option.bind_some]
          rw [if_pos (by rw [iI_le (by omega) (by omega)]; omega)]
        · have ht2 : t < wn A := by omega
          have mu : ∀ z : Sg, wn A - (z, iI ((t + 1 : Nat) : Int)).2.toNatClampNeg < wn A - (s', iI (t : Int)).2.toNatClampNeg := fun z => by
            show wn A - (iI ((t + 1 : Nat) : Int)).toNatClampNeg < wn A - (iI (t : Int)).toNatClampNeg
            rw [iI_clamp (by omega) (by omega), iI_clamp (by omega) (by omega)]
            omega
          have oR : -1 ≤ (oF G t st).2 ∧ (oF G t st).2 ≤ 300000 := by
            refine oF_P (fun st => -1 ≤ st.2 ∧ st.2 ≤ 300000) (by omega) _ (fun w st hw q => ?_)
            rw [← hG]
            rcases oG_or (p := p) (k := k) (h := fun q s => oE A S wt r (k + 1) q s) w st with z | z
            · rw [z]; exact q
            · rw [z]
              refine oE_R h6 r (k + 1) _ st (by omega) (fun t' ht' => ?_) q
              unfold setP
              split
              · omega
              · exact hp t' (by omega)
          have so : oF G (t + 1) st = G t (oF G t st) := rfl
          simp only [mX6_extend_L38, g1', Option.bind_some, gI_ok O1.o (show 4 < 5 by omega) O1.2.2.2.2.2.2, x_isIn mask (show t < 32 by omega), mX6_extend_95, pt1]
          rw [if_neg (by rw [iI_le (by omega) (by omega)]; omega)]
          by_cases cf : cs1.2 = -1
          · rw [if_pos (by rw [cf]; rfl)]
            have s2 : (oF G t st).2 = -1 := by rw [← R1.1]; exact cf
            have s1 := R1.2.1 s2
            have eq : cs1 = oF G t st := Prod.ext s1 R1.1
            by_cases cb : bt (un mask) t
            · rw [if_pos cb, if_neg (by decide)]
              refine Or.inl ⟨_, rfl, ⟨t + 1, cs1, rfl, by omega, O1, ?_⟩, mu s'⟩
              rw [so, ← hG, oG_used ((hM t (by omega)).mp cb), hG]
              exact R1
            · rw [if_neg cb, if_pos (by decide)]
              have nu : ¬ usd p k t := fun q => cb ((hM t (by omega)).mpr q)
              have eG : G t (oF G t st) = oE A S wt r (k + 1) (setP p k t) (oF G t st) := by rw [← hG, oG_free nu]
              rcases x_rises (n := n) O1 h6 hkw ht2 hp (hB hkw) hn with ⟨fe, s3, D3, r1, O3, dj, B3⟩ | ⟨fe, r1⟩
              · simp only [r1, Option.bind_some]
                rw [if_neg (by decide)]
                have bl := oF_le (g := G) (K := 6 ^ r) (fun w st => by
                  rw [← hG]
                  rcases oG_or (p := p) (k := k) (h := fun q s => oE A S wt r (k + 1) q s) w st with z | z
                  · rw [z]; exact Nat.le_add_right _ _
                  · rw [z]; exact oE_le h6 r (k + 1) _ st) st t
                have b2 := Nat.mul_le_mul_right (6 ^ r) (show t + 1 ≤ 6 by omega)
                rw [Nat.succ_mul] at b2
                have O3' := O3
                rw [eq] at O3'
                obtain ⟨s4, cs4, r4, O4, R4⟩ := ih r (k + 1) (setP p k t) D3 (oF G t st) s3 (mask ||| ((1 : Int32) <<< (iI (t : Int) &&& 31))) (by omega) (by omega)
                  (fun t' ht' => by
                    unfold setP
                    split
                    · omega
                    · exact hp t' (by omega)) fe O3' B3
                  (fun y hy => by
                    rw [un_orb mask (show t < 32 by omega), bt_or, hM y hy]
                    constructor
                    · rintro (⟨a, a1, a2⟩ | rfl)
                      · exact ⟨a, by omega, by rw [setP_low a1]; exact a2⟩
                      · exact ⟨k, by omega, setP_at⟩
                    · rintro ⟨a, a1, a2⟩
                      by_cases z : a = k
                      · rw [z, setP_at] at a2; exact Or.inr a2.symm
                      · rw [setP_low (by omega)] at a2; exact Or.inl ⟨a, by omega, a2⟩) s2 (by omega)
                have e8 : (8 : Int32) * iI (numP p k : Int) + iI (t : Int) = iI (numP (setP p k t) (k + 1) : Nat) := by
                  rw [numP_set, iI_lit, iI_mul, iI_add]
                  rfl
                simp only [e8, r4, Option.bind_some]
                refine Or.inl ⟨_, rfl, ⟨t + 1, cs4, rfl, by omega, O4.low.swap (fun j hj => (dj j hj).symm), ?_⟩, mu s4⟩
                rw [so, eG]
                exact R4
              · simp only [r1, Option.bind_some]
                rw [if_pos (by decide)]
                refine Or.inl ⟨_, rfl, ⟨t + 1, cs1, rfl, by omega, O1, ?_⟩, mu s'⟩
                rw [so, eG, oE_inf r (k + 1) _ _ (by omega) fe]
                exact R1
          · rw [if_neg (fun z => cf ((c_eqm (RI.sm (by rw [R1.1]; omega) (by rw [R1.1]; omega))).mp z))]
            have nf : (oF G t st).2 ≠ -1 := by rw [← R1.1]; exact cf
            have fin := oF_from (g := G) (st := st) (t := t) (fun q => q.2 = cs1.2 ∧ wt < q.1) ⟨R1.1.symm, R1.2.2.1 nf⟩ (fun w q z => by
              rw [← hG]
              rcases oG_or (p := p) (k := k) (h := fun q s => oE A S wt r (k + 1) q s) w q with y | y
              · rw [y]; exact z
              · rw [y]; exact oE_found r (k + 1) _ q _ z.1 z.2) (wn A) (by omega)
            refine Or.inr ⟨s', rfl, cs1, O1, fin.1.symm, fun z => absurd (by rw [← fin.1]; exact z) cf, fun _ => fin.2, R1.2.2.2⟩
end X72
