/-! ===== sets as bits; the net of a set ===== -/
theorem loop_inv {C E : Type} {body : C → Option (C ⊕ E)} (I : C → Prop) (μ : C → Nat) (Q : E → Prop) (h : ∀ c, I c → (∃ c', body c = some (.inl c') ∧ I c' ∧ μ c' < μ c) ∨ ∃ e, body c = some (.inr e) ∧ Q e) : ∀ f c, I c → μ c < f → ∃ e, loopM body f c = some e ∧ Q e := by
  intro f
  induction f with
  | zero => intro c _ hf; omega
  | succ f ih =>
    intro c hI hf
    rcases h c hI with ⟨c', h1, h2, h3⟩ | ⟨e, h1, h2⟩
    · obtain ⟨e, h4, h5⟩ := ih c' h2 (by omega)
      exact ⟨e, by simp only [loopM, h1]; exact h4, h5⟩
    · exact ⟨e, by simp only [loopM, h1], h2⟩
def un (x : Int32) : Nat := x.toBitVec.toNat
theorem un_iI {z : Nat} (h : z < 4294967296) : un (iI z) = z := by
  unfold un
  rw [← iI_nat]
  exact pk_tn h
theorem un_lt (x : Int32) : un x < 4294967296 := x.toBitVec.isLt
theorem un_inj {x y : Int32} (h : un x = un y) : x = y := Int32.toBitVec_inj.mp (BitVec.eq_of_toNat_eq h)
theorem un_of {x : Int32} (h : un x < 2147483648) : x = iI (un x) := un_inj (by rw [un_iI (by omega)])
theorem sh31 : ∀ k : Nat, k < 32 → (((iI k).toUInt32 &&& Int32.toUInt32 31).toBitVec % 32).toNat = k := by decide
abbrev bt (s k : Nat) : Prop := s / 2 ^ k % 2 = 1
theorem ushr_un (x : Int32) {k : Nat} (hk : k < 32) : un (x.toUInt32 >>> ((iI k).toUInt32 &&& Int32.toUInt32 31)).toInt32 = un x / 2 ^ k := pk_ushr x (iI k) k (sh31 k hk)
theorem x_isIn {n k : Nat} {σ : Sg} (x : Int32) (hk : k < 32) : mX9_isIn n σ x (iI k) = some (if bt (un x) k then 1 else 0, σ) := by
  unfold mX9_isIn
  have e : ((x.toUInt32 >>> ((iI k).toUInt32 &&& Int32.toUInt32 31)).toInt32 &&& (1 : Int32)) = iI ((un x / 2 ^ k % 2 : Nat) : Int) := by
    rw [pk_and _ 1 rfl]
    have := ushr_un x hk
    unfold un at this ⊢
    rw [this]
    exact iI_nat _
  rw [e]
  by_cases c : un x / 2 ^ k % 2 = 1
  · rw [if_pos (show bt (un x) k from c), if_neg (by rw [c]; decide)]
  · rw [if_neg (show ¬ bt (un x) k from c), if_pos (by rw [show un x / 2 ^ k % 2 = 0 by omega]; rfl)]
section X32
variable {B n : Nat} {wa : Nat → Nat} {σ : Sg} {A : AS}
theorem x_isSet (h : RC B wa σ A) (hA : Wf A) (x : Int32) : mX9_isSet n σ B x = some (if un x < 2 ^ fn A then 1 else 0, σ) := by
  have hf := hA.2.2.2.1.1
  unfold mX9_isSet
  simp only [h.o, Option.bind_some, h.qfn]
  have e := ushr_un x (k := fn A) (by omega)
  have hp : 0 < 2 ^ fn A := Nat.two_pow_pos _
  by_cases c : un x < 2 ^ fn A
  · rw [if_pos c, if_pos (un_inj (by rw [e, Nat.div_eq_of_lt c]; rfl))]
  · rw [if_neg c, if_neg]
    intro q
    rw [q] at e
    have h1 : un 0 = 0 := rfl
    have h2 := Nat.div_pos (Nat.le_of_not_lt c) hp
    omega
/-- the gaps that the facts below m of a set tell -/
def conR (A : AS) (S m : Nat) : Nat → Nat → Int → Prop := fun i j v => frR (day A) i j v ∨ ∃ f, f < m ∧ bt S f ∧ ((i = (fc A f).2.2.1 ∧ j = (fc A f).2.1 ∧ v = (fc A f).2.2.2.1) ∨ (i = (fc A f).2.1 ∧ j = (fc A f).2.2.1 ∧ v = -(fc A f).2.2.2.2))
theorem conR_0 (A : AS) (S : Nat) (i j : Nat) (v : Int) : conR A S 0 i j v ↔ frR (day A) i j v := by
  unfold conR
  constructor
  · rintro (h | ⟨f, hf, -⟩)
    · exact h
    · omega
  · exact Or.inl
theorem conR_succ (A : AS) (S m : Nat) (hb : bt S m) (i j : Nat) (v : Int) : conR A S (m + 1) i j v ↔ arcR (arcR (conR A S m) (fc A m).2.2.1 (fc A m).2.1 (fc A m).2.2.2.1) (fc A m).2.1 (fc A m).2.2.1 (-(fc A m).2.2.2.2) i j v := by
  unfold arcR conR
  constructor
  · rintro (h | ⟨f, hf, hb, h⟩)
    · exact Or.inl (Or.inl (Or.inl h))
    · by_cases e : f = m
      · subst e
        rcases h with h | h
        · exact Or.inl (Or.inr h)
        · exact Or.inr h
      · exact Or.inl (Or.inl (Or.inr ⟨f, by omega, hb, h⟩))
  · rintro ((( h | ⟨f, hf, hb, h⟩) | h) | h)
    · exact Or.inl h
    · exact Or.inr ⟨f, by omega, hb, h⟩
    · exact Or.inr ⟨m, by omega, hb, Or.inl h⟩
    · exact Or.inr ⟨m, by omega, hb, Or.inr h⟩
theorem conR_skip (A : AS) (S m : Nat) (hb : ¬ bt S m) (i j : Nat) (v : Int) : conR A S (m + 1) i j v ↔ conR A S m i j v := by
  unfold conR
  constructor
  · rintro (h | ⟨f, hf, hb2, h⟩)
    · exact Or.inl h
    · refine Or.inr ⟨f, ?_, hb2, h⟩
      rcases Nat.lt_or_ge f m with q | q
      · exact q
      · exact absurd (show bt S m by rw [show m = f by omega]; exact hb2) hb
  · rintro (h | ⟨f, hf, hb2, h⟩)
    · exact Or.inl h
    · exact Or.inr ⟨f, by omega, hb2, h⟩
theorem CM.iff {p : Nat} {R R' : Nat → Nat → Int → Prop} (h : ∀ i j v, R i j v ↔ R' i j v) (Y : Nat → Nat → Int) : CM p R Y ↔ CM p R' Y :=
  ⟨fun q => q.mono (fun i j v _ _ r => (h i j v).mpr r), fun q => q.mono (fun i j v _ _ r => (h i j v).mp r)⟩
theorem NB.iff {p : Nat} {day : Int} {R R' : Nat → Nat → Int → Prop} {d : Nat → Int} (h : ∀ i j v, R i j v ↔ R' i j v) (q : NB p day R d) : NB p day R' d := ⟨q.1.congr (fun Y => CM.iff h Y), fun i j v r => (h i j v).mp (q.2.1 i j v r), q.2.2⟩
/-- whether the facts below m of a set can be -/
def can (A : AS) (S m : Nat) : Prop := ∃ Y, CM (wn A + 1) (conR A S m) Y
/-- the class's world behind the drawing of a net -/
def dn (B : Nat) (σ : Sg) (A : AS) (d : Nat → Int) : Sg := setA (setF σ (B + 6) 1 (.int (iI (wn A + 1 : Nat)))) (B + 7) d
theorem dn_fr (d : Nat → Int) : Fr B σ (dn B σ A d) := (Fr.setF (by omega) rfl).trans (Fr.setA (by omega) (fun _ => rfl))
theorem dn_net (h : RC B wa σ A) {p : Nat} {d e : Nat → Int} (hN : NetAt σ (B + 6) (B + 7) p e) : NetAt (dn B σ A d) (B + 6) (B + 7) (wn A + 1) d := (hN.setP).setA
theorem dn_setA (d e : Nat → Int) : setA (dn B σ A d) (B + 7) e = dn B σ A e := setA_setA _ _ _ _
theorem x_drawNet (h : RC B wa σ A) (hA : Wf A) {p : Nat} {e : Nat → Int} (hN : NetAt σ (B + 6) (B + 7) p e) (he : Bs e) (x : Int32) (hn : 100000 ≤ n) :
    ∃ d, Bs d ∧ ((mX9_drawNet n σ B x = some (-1, dn B σ A d) ∧ NB (wn A + 1) (day A) (conR A (un x) (fn A)) d) ∨
      ∃ m, m < fn A ∧ bt (un x) m ∧ mX9_drawNet n σ B x = some (iI m, dn B σ A d) ∧ can A (un x) m ∧ ¬ can A (un x) (m + 1)) := by
  have hw := hA.2.2.1.1
  have hf := hA.2.2.2.1.1
  have hday : (0 : Int) ≤ day A ∧ (day A : Int) ≤ 2000 := by have := hA.1.2.2.2.2; omega
  have hc := net_clear (n := n) hN (w := wn A) (day := day A) hw hday hn
  have key := loop_inv (body := mX9_drawNet_L17 n B x) (fun c => ∃ (i : Nat) (d : Nat → Int), c = (dn B σ A d, iI i) ∧ i ≤ fn A ∧ NB (wn A + 1) (day A) (conR A (un x) i) d) (fun c => fn A - c.2.toNatClampNeg)
    (fun r => ∃ d, Bs d ∧ ((r = .inl (dn B σ A d) ∧ NB (wn A + 1) (day A) (conR A (un x) (fn A)) d) ∨ ∃ m, m < fn A ∧ bt (un x) m ∧ r = .inr (iI m, dn B σ A d) ∧ can A (un x) m ∧ ¬ can A (un x) (m + 1))) ?_ n (dn B σ A (clr (wn A + 1) 0 (wn A + 1) (day A) e), (0 : Int32))
    ⟨0, _, rfl, by omega, (clr_NB (by omega) hday he).iff (fun i j v => (conR_0 A (un x) i j v).symm)⟩ (by omega)
  · obtain ⟨r, hr, d, hd, hq⟩ := key
    refine ⟨d, hd, ?_⟩
    unfold mX9_drawNet
    have e1 : mX4_clear n σ (B + 6) (iI (wn A)) (iI (day A)) = some (dn B σ A (clr (wn A + 1) 0 (wn A + 1) (day A) e)) := hc
    simp only [h.o, h.r11, h.qwn, h.qday, Option.bind_some, e1, hr]
    rcases hq with ⟨rfl, hq⟩ | ⟨m, h1, h2, rfl, h3⟩
    · exact Or.inl ⟨rfl, hq⟩
    · exact Or.inr ⟨m, h1, h2, rfl, h3⟩
  · rintro c ⟨i, d, rfl, hi, hB⟩
    have hC := h.fr (dn_fr (A := A) d)
    have hNd := dn_net h (d := d) hN
    have hz : (iI (i : Int)).toNatClampNeg = i := by rw [iI_clamp (by omega) (by omega)]; omega
    have hz1 : (iI ((i : Int) + 1)).toNatClampNeg = i + 1 := by rw [iI_clamp (by omega) (by omega)]; omega
    by_cases c0 : i = fn A
    · refine Or.inr ⟨.inl (dn B σ A d), ?_, d, hB.2.2, Or.inl ⟨rfl, by rw [← c0]; exact hB⟩⟩
      simp only [mX9_drawNet_L17, hC.qfn, Option.bind_some]
      rw [if_pos (by rw [iI_le (by omega) (by omega)]; omega)]
    · have hstep : ∀ r, (mX9_drawNet_L17 n B x (dn B σ A d, iI i) = r ↔ (if bt (un x) i then (mX4_takes n (dn B σ A d) (B + 6) (B + (50 + i))).bind fun (v14, s13) => if v14 = 0 then some (.inr (.inr (iI i, s13))) else mX9_drawNet_51 n s13 B x (iI i) else mX9_drawNet_51 n (dn B σ A d) B x (iI i)) = r) := by
        intro r
        simp only [mX9_drawNet_L17, hC.qfn, Option.bind_some, x_isIn x (show i < 32 by omega)]
        rw [if_neg (by rw [iI_le (by omega) (by omega)]; omega)]
        by_cases cb : bt (un x) i
        · rw [if_pos cb, if_pos cb, if_neg (by decide)]
          simp only [hC.r11, hC.r7, hC.fact (show i < 20 by omega), Option.bind_some]
        · rw [if_neg cb, if_neg cb, if_pos (by decide)]
      by_cases cb : bt (un x) i
      · have hF := hC.factAt (k := i) (by omega)
        have hW := hA.2.2.2.1.2 i (by omega)
        obtain ⟨d', hd', hq⟩ := net_takes (n := n) hNd hF (by omega) hB hday (by have := hW.2.2.1; omega) (by have := hW.2.2.2.1; omega) (by omega) (by have := hW.2.2.2.2.2; omega) (by have := hW.2.2.2.2.2; omega) hn
        rw [dn_setA] at hq
        rcases hq with ⟨q1, q2⟩ | ⟨q1, q2⟩
        · refine Or.inl ⟨(dn B σ A d', iI ((i : Int) + 1)), (hstep _).mpr ?_, ⟨i + 1, d', rfl, by omega, q2.iff (fun a b v => (conR_succ A (un x) i cb a b v).symm)⟩, ?_⟩
          · rw [if_pos cb, q1]
            simp only [Option.bind_some, mX9_drawNet_51, iI_1, iI_add]
            rw [if_neg (by decide)]
          · show fn A - (iI ((i : Int) + 1)).toNatClampNeg < fn A - (iI (i : Int)).toNatClampNeg
            rw [hz, hz1]; omega
        · refine Or.inr ⟨.inr (iI i, dn B σ A d'), (hstep _).mpr ?_, d', hd', Or.inr ⟨i, by omega, cb, rfl, ⟨_, hB.1.1⟩, ?_⟩⟩
          · rw [if_pos cb, q1]
            simp only [Option.bind_some]
            rw [if_pos (by decide)]
          · rintro ⟨Y, hY⟩
            exact q2 Y ((CM.iff (fun a b v => conR_succ A (un x) i cb a b v) Y).mp hY)
      · refine Or.inl ⟨(dn B σ A d, iI ((i : Int) + 1)), (hstep _).mpr ?_, ⟨i + 1, d, rfl, by omega, hB.iff (fun a b v => (conR_skip A (un x) i cb a b v).symm)⟩, ?_⟩
        · rw [if_neg cb]
          simp only [mX9_drawNet_51, iI_1, iI_add]
        · show fn A - (iI ((i : Int) + 1)).toNatClampNeg < fn A - (iI (i : Int)).toNatClampNeg
          rw [hz, hz1]; omega
end X32
