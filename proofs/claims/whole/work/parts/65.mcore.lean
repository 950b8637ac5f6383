/-! ===== core: the reference tries every part ===== -/
/-- the next smaller part of a set -/
theorem part_next : ∀ (k S p t : Nat), p ≤ k → p &&& S = p → t &&& S = t → t < p → t ≤ (p - 1) &&& S := by
  intro k
  induction k with
  | zero => intro S p t h1 _ _ h4; omega
  | succ k ih =>
    intro S p t h1 h2 h3 h4
    have p2 : (p / 2) &&& (S / 2) = p / 2 := by rw [← Nat.and_div_two, h2]
    have t2 : (t / 2) &&& (S / 2) = t / 2 := by rw [← Nat.and_div_two, h3]
    have pm : p % 2 = 1 → S % 2 = 1 := fun q => by
      have := (Nat.and_mod_two_eq_one (a := p) (b := S)).mp (by rw [h2]; exact q)
      exact this.2
    have tm : t % 2 = 1 → S % 2 = 1 := fun q => by
      have := (Nat.and_mod_two_eq_one (a := t) (b := S)).mp (by rw [h3]; exact q)
      exact this.2
    have d := Nat.and_div_two (a := p - 1) (b := S)
    have m := Nat.and_mod_two_eq_one (a := p - 1) (b := S)
    by_cases c : p % 2 = 1
    · rw [show (p - 1) / 2 = p / 2 by omega, p2] at d
      omega
    · rw [show (p - 1) / 2 = p / 2 - 1 by omega] at d
      have i := ih (S / 2) (p / 2) (t / 2) (by omega) p2 t2 (by omega)
      by_cases c2 : S % 2 = 1
      · have := m.mpr ⟨by omega, c2⟩
        omega
      · have : t % 2 ≠ 1 := fun q => c2 (tm q)
        omega
theorem cntB_sub {S T : Nat} : ∀ m, (∀ f, f < m → bt T f → bt S f) → cntB T m ≤ cntB S m
  | 0, _ => Nat.le_refl 0
  | m + 1, h => by
    have ih := cntB_sub m (fun f hf => h f (by omega))
    have a := h m (by omega)
    unfold bt at a
    unfold cntB
    omega
theorem sub_bt {S T : Nat} (h : T &&& S = T) (f : Nat) (hf : bt T f) : bt S f := by
  rw [← h] at hf
  exact ((bt_and T S f).mp hf).2
/-- the facts of some arcs -/
noncomputable def ofL (L : List Ac) (m : Nat) : Nat := bsm (fun f => @decide (f ∈ L.map Prod.fst) (Classical.propDecidable _)) m
theorem ofL_bit (L : List Ac) (m f : Nat) : bt (ofL L m) f ↔ f < m ∧ f ∈ L.map Prod.fst := by
  unfold ofL
  rw [bsm_bit]
  constructor
  · rintro ⟨a, b⟩
    exact ⟨a, @of_decide_eq_true _ (Classical.propDecidable _) b⟩
  · rintro ⟨a, b⟩
    exact ⟨a, @decide_eq_true _ (Classical.propDecidable _) b⟩
theorem cnt_ofL : ∀ (m : Nat) (L : List Nat) (T : Nat), (∀ f, f < m → bt T f → f ∈ L) → cntB T m ≤ L.length
  | 0, _, _, _ => Nat.zero_le _
  | m + 1, L, T, h => by
    by_cases c : bt T m
    · have hm := h m (by omega) c
      have ih := cnt_ofL m (L.erase m) T (fun f hf hb => by
        have := h f (by omega) hb
        exact (List.mem_erase_of_ne (by omega)).mpr this)
      rw [List.length_erase_of_mem hm] at ih
      have hl : 0 < L.length := List.length_pos_of_mem hm
      unfold bt at c
      unfold cntB
      omega
    · have ih := cnt_ofL m L T (fun f hf hb => h f (by omega) hb)
      unfold bt at c
      unfold cntB
      omega
section X65
variable {M n : Nat} {σ : Sg} {A : AS} {f : Nat → Int} {e : Nat → Int → Int}
theorem minT_part (hA : Wf A) {S k : Nat} (hk : MinT A S k) (hS : S < 2 ^ fn A) : ∃ T, T &&& S = T ∧ cntB T (fn A) ≤ k ∧ ¬ can A T (fn A) := by
  obtain ⟨⟨p, L, r1, r2⟩, -⟩ := hk
  have hb := ofL_bit L (fn A)
  refine ⟨ofL L (fn A), ?_, ?_, ?_⟩
  · refine Nat.eq_of_testBit_eq (fun i => ?_)
    rw [Nat.testBit_and]
    by_cases c : bt (ofL L (fn A)) i
    · have c' := (hb i).mp c
      obtain ⟨a, a1, a2⟩ := List.mem_map.mp c'.2
      have s := (r1.2.1 a a1).2.1
      rw [a2] at s
      rw [(bt_iff _ _).mp c, (bt_iff _ _).mp s]; rfl
    · have : (ofL L (fn A)).testBit i = false := by
        cases h : (ofL L (fn A)).testBit i with
        | false => rfl
        | true => exact absurd ((bt_iff _ _).mpr h) c
      rw [this]; rfl
  · have := cnt_ofL (fn A) (L.map Prod.fst) (ofL L (fn A)) (fun g _ hg => ((hb g).mp hg).2)
    rw [List.length_map] at this
    omega
  · refine rnd_no hA (S := ofL L (fn A)) (p := p) (L := L) ⟨r1.1, fun a ha => ?_, r1.2.2⟩
    have q := r1.2.1 a ha
    exact ⟨q.1, (hb a.1).mpr ⟨q.1, List.mem_map.mpr ⟨a, ha, rfl⟩⟩, q.2.2⟩
theorem minT_le (hA : Wf A) {S T k : Nat} (hk : MinT A S k) (hT : T &&& S = T) (nc : ¬ can A T (fn A)) : k ≤ cntB T (fn A) := by
  obtain ⟨j, j1, ⟨p, L, r1, r2⟩, -⟩ := no_few hA nc
  have := hk.2 p L (rnd_sub r1 (fun g _ hg => sub_bt hT g hg))
  omega
theorem m_core (hS : Msh M σ) (h : MH A f e) (hA : Wf A) (x : Int32) (hn2 : 2000000 ≤ n) : ∃ r f' e', mX10_core n (MW M σ f e) M x = some (iI r, MW M σ f' e') ∧ MH A f' e' ∧ CoreQ A x r := by
  have hn : 100000 ≤ n := by omega
  have W := mAll hS
  have h20 := hA.2.2.2.1.1
  unfold mX10_core
  simp only [W, Option.bind_some, m_isSet hS h hA x, iL, iI_neg, bI_0]
  by_cases c : un x < 2 ^ fn A
  · rw [if_neg (fun q => q c)]
    have hx := set20 hA c
    obtain ⟨bc1, bc2⟩ := bc_cnt h20 c
    simp (disch := omega) only [j_bitCount, Option.bind_some, bc1, iI_lt]
    by_cases c2 : 12 < cntB (un x) (fn A)
    · rw [if_pos (by omega)]
      exact ⟨-1, f, e, rfl, h, Or.inl ⟨Or.inr (Or.inl c2), rfl⟩⟩
    · rw [if_neg (by omega)]
      obtain ⟨X, hq⟩ := m_canBe (n := n) hS h hA (show un x < 2147483648 by omega) hn
      rcases hq with ⟨q1, q2⟩ | ⟨q1, q2⟩
      · simp only [q1, Option.bind_some]
        rw [if_neg (by decide)]
        exact ⟨-1, f, _, rfl, h.mx X, Or.inl ⟨Or.inr (Or.inr ⟨_, q2.1⟩), rfl⟩⟩
      · simp only [q1, Option.bind_some, if_true]
        obtain ⟨k, -, hk⟩ := no_few hA q2
        have hxe : x = iI (un x) := un_of (by omega)
        have and20 : ∀ a : Nat, a < 1048576 → (iI (a : Int) - iI 1) &&& x = iI (((a - 1) &&& un x : Nat) : Int) ∨ a = 0 := fun a ha => by
          by_cases c0 : a = 0
          · exact Or.inr c0
          · left
            have e1 : iI (a : Int) - iI 1 = iI ((a - 1 : Nat) : Int) := by rw [iI_sub, show (a : Int) - 1 = ((a - 1 : Nat) : Int) by omega]
            have l : (a - 1) &&& un x ≤ a - 1 := Nat.and_le_left
            rw [e1]
            refine un_inj ?_
            rw [un_and, un_iI (by omega), un_iI (by omega)]
        have sum := fun (p : Nat) (hp : p &&& un x = p) => Nat.le_trans (Nat.le_of_eq hp.symm) (Nat.and_le_right (n := p) (m := un x))
        have cl : ∀ a : Nat, a < 2147483648 → (iI (a : Int)).toNatClampNeg = a := fun a ha => by rw [iI_clamp (by omega) (by omega)]; omega
        have cx : x.toNatClampNeg = un x := by
          conv => lhs; rw [hxe]
          exact cl _ (by omega)
        have key := loop_inv (body := mX10_core_L34 n M x) (fun s => ∃ (p b : Nat) (X : Nat → Nat → Int), p &&& un x = p ∧ s = (MX M σ f e X, iI (b : Int), iI (p : Int)) ∧ b ≤ 20 ∧ (∃ T, T &&& un x = T ∧ ¬ can A T (fn A) ∧ b = cntB T (fn A)) ∧ ∀ T, T &&& un x = T → p < T → ¬ can A T (fn A) → b ≤ cntB T (fn A)) (fun s => s.2.2.toNatClampNeg)
          (fun s => ∃ X, s = (MX M σ f e X, iI (k : Int))) ?_ n (MX M σ f e X, iI (cntB (un x) (fn A) : Nat), x) ⟨un x, cntB (un x) (fn A), X, Nat.and_self _, by rw [← hxe], bc2, ⟨un x, Nat.and_self _, q2, rfl⟩, fun T hT hlt => absurd (sum T hT) (by omega)⟩ (by show x.toNatClampNeg < n; omega)
        · obtain ⟨s, hs, X', rfl⟩ := key
          simp only [hs, Option.bind_some]
          exact ⟨k, f, _, rfl, h.mx X', Or.inr ⟨⟨c, c2, q2⟩, k, hk, rfl⟩⟩
        · rintro _ ⟨p, b, X', hp, rfl, hb, ⟨T0, t1, t2, t3⟩, hall⟩
          have pl := sum p hp
          by_cases c0 : p = 0
          · subst c0
            refine Or.inr ⟨_, ?_, X', rfl⟩
            simp (disch := omega) only [mX10_core_L34, iL, iI_le]
            rw [if_pos (by omega)]
            have ge := minT_le hA hk t1 t2
            obtain ⟨T, u1, u2, u3⟩ := minT_part hA hk c
            have tp : 0 < T := by
              rcases Nat.eq_zero_or_pos T with z | z
              · rw [z] at u3
                exact absurd ((can_mask (A := A) (S := 0) (k := 0) (by omega)).mpr (can_0 hA 0)) u3
              · exact z
            have := hall T u1 tp u3
            rw [show b = k by omega]
          · have pu : un (iI (p : Int)) = p := un_iI (by omega)
            obtain ⟨d1, d2⟩ := bc_cnt (x := iI (p : Int)) h20 (by rw [pu]; omega)
            rw [pu] at d1 d2
            have nx : (iI (p : Int) - iI 1) &&& x = iI (((p - 1) &&& un x : Nat) : Int) := by
              rcases and20 p (by omega) with z | z
              · exact z
              · exact absurd z c0
            have nl : (p - 1) &&& un x ≤ p - 1 := Nat.and_le_left
            have ns : ((p - 1) &&& un x) &&& un x = (p - 1) &&& un x := by rw [Nat.and_assoc, Nat.and_self]
            have hm : (iI (((p - 1) &&& un x : Nat) : Int)).toNatClampNeg < (iI (p : Int)).toNatClampNeg := by rw [cl _ (by omega), cl _ (by omega)]; omega
            have lowT : ∀ T, T &&& un x = T → (p - 1) &&& un x < T → p ≤ T := fun T hT hlt => by
              rcases Nat.lt_or_ge T p with z | z
              · have := part_next p (un x) p T (Nat.le_refl _) hp hT z
                omega
              · exact z
            obtain ⟨X2, k1⟩ := m_canBe' (n := n) hS h hA (x := iI (p : Int)) (by rw [pu]; omega) hn X'
            rw [pu] at k1
            simp (disch := omega) only [mX10_core_L34, iL, iI_le, j_bitCount, Option.bind_some, d1, mX10_core_59, nm, nx]
            rw [if_neg (by omega)]
            by_cases c3 : b ≤ cntB p (fn A)
            · rw [if_pos (by omega)]
              refine Or.inl ⟨_, rfl, ⟨_, b, X', ns, rfl, hb, ⟨T0, t1, t2, t3⟩, fun T hT hlt nc => ?_⟩, hm⟩
              by_cases cT : T = p
              · rw [cT]; exact c3
              · exact hall T hT (by have := lowT T hT hlt; omega) nc
            · rw [if_neg (by omega)]
              rcases k1 with ⟨k1, k2⟩ | ⟨k1, k2⟩
              · simp only [k1, Option.bind_some]
                rw [if_neg (by decide)]
                refine Or.inl ⟨_, rfl, ⟨_, b, X2, ns, rfl, hb, ⟨T0, t1, t2, t3⟩, fun T hT hlt nc => ?_⟩, hm⟩
                by_cases cT : T = p
                · rw [cT] at nc; exact absurd ⟨_, k2.1⟩ nc
                · exact hall T hT (by have := lowT T hT hlt; omega) nc
              · simp only [k1, Option.bind_some, if_true]
                refine Or.inl ⟨_, rfl, ⟨_, cntB p (fn A), X2, ns, rfl, d2, ⟨p, hp, k2, rfl⟩, fun T hT hlt nc => ?_⟩, hm⟩
                by_cases cT : T = p
                · rw [cT]; exact Nat.le_refl _
                · have := hall T hT (by have := lowT T hT hlt; omega) nc
                  omega
  · rw [if_pos c]
    exact ⟨-1, f, e, rfl, h, Or.inl ⟨Or.inl c, rfl⟩⟩
end X65
