/-! ===== the reference: orders ===== -/
theorem m_bt0 {x : Int32} {k : Nat} (hx : un x < 2147483648) (hk : k < 32) : ((x >>> (iI (k : Int) &&& iI 31) &&& iI 1) = iI 0) ↔ ¬ bt (un x) k := by
  rw [m_bit hx hk, iI_eq (by omega) (by omega)]
  unfold bt
  omega
theorem ordR_more {A : AS} {S : Nat} {p : Nat → Nat} {k : Nat} (hk : 0 < k) (i j : Nat) (v : Int) : arcR (ordR A S p k) (p (k - 1) + 1) (p k + 1) 1 i j v ↔ ordR A S p (k + 1) i j v := by
  have e : setP p k (p k) = p := by
    funext t
    unfold setP
    split
    · rename_i h; rw [h]
    · rfl
  have h := ordR_set (A := A) (S := S) (p := p) (w := p k) hk i j v
  rw [e] at h
  exact h.symm
section X74
variable {M n : Nat} {σ : Sg} {A : AS} {f : Nat → Int} {e : Nat → Int → Int} {S : Nat}
/-- a state of the reference's search for rows -/
def RWd (M : Nat) (σ : Sg) (A : AS) (p : Nat → Nat) (k : Nat) (wt : Int) (st : Nat × Int) (s : Sg) : Prop := ∃ f e, s = MW M σ f e ∧ MH A f e ∧ f 38 = st.1 ∧ f 39 = wt ∧ f 40 = st.2 ∧ ∀ t : Nat, t < k → e 18 t = p t
theorem RWd.sub {p q : Nat → Nat} {k k' : Nat} {wt : Int} {st : Nat × Int} {s : Sg} (h : RWd M σ A p k wt st s) (hk : k' ≤ k) (hp : ∀ t, t < k' → q t = p t) : RWd M σ A q k' wt st s := by
  obtain ⟨f, e, h1, h2, h3, h4, h5, h6⟩ := h
  exact ⟨f, e, h1, h2, h3, h4, h5, fun t ht => by rw [hp t ht]; exact h6 t (by omega)⟩
theorem m_row (hS : Msh M σ) (h : MH A f e) (hA : Wf A) (h6 : wn A ≤ 6) {p : Nat → Nat} {r : Sg → Nat → Int32 → Int32 → Int32 → Option Sg} (he : ∀ t : Nat, t < wn A → e 18 t = p t) (hp : ∀ t, t < wn A → p t < wn A) (hi : ∀ t u, t < wn A → u < wn A → p t = p u → t = u) {X : Nat → Nat → Int} (hL : Lay A (conR A S (fn A)) X) (hn : 100000 ≤ n) : ∃ X', loopM (mX10_rise_L19 n r M) n (MX M σ f e X, iI 0, iI 0) = some (MX M σ f e X', iI (numP p (wn A) : Nat)) ∧ Lay A (ordR A S p (wn A)) X' := by
  have W := mAll hS
  have h8 := hA.2.2.1.1
  have he2 : ∀ (X : Nat → Nat → Int) (z : Int), setR e 15 (dX (e 15) X) 18 z = e 18 z := fun X z => by
    unfold setR
    rw [if_neg (by omega)]
  have key := loop_inv (body := mX10_rise_L19 n r M) (fun s => ∃ (t : Nat) (X' : Nat → Nat → Int), t ≤ wn A ∧ s = (MX M σ f e X', iI (numP p t : Nat), iI (t : Int)) ∧ Lay A (ordR A S p t) X') (fun s => wn A - s.2.2.toNatClampNeg)
    (fun s => ∃ X', s = (MX M σ f e X', iI (numP p (wn A) : Nat)) ∧ Lay A (ordR A S p (wn A)) X') ?_ n (MX M σ f e X, iI 0, iI 0) ⟨0, X, by omega, rfl, hL.iff (fun i j v _ => (ordR_1 (by omega) i j v).symm)⟩ (by show wn A - _ < n; omega)
  · obtain ⟨s, hs, X', rfl, q⟩ := key
    exact ⟨X', hs, q⟩
  · rintro _ ⟨t, X', t1, rfl, hq⟩
    by_cases ct : t = wn A
    · subst ct
      refine Or.inr ⟨_, ?_, X', rfl, hq⟩
      simp (disch := omega) only [mX10_rise_L19, W, Option.bind_some, (h.mx X').2.2.1.1, iI_le]
      rw [if_pos (by omega)]
    · have ht2 : t < wn A := by omega
      have mu : wn A - (iI ((t : Int) + 1)).toNatClampNeg < wn A - (iI (t : Int)).toNatClampNeg := by
        rw [iI_clamp (by omega) (by omega), iI_clamp (by omega) (by omega)]
        omega
      have pt := hp t ht2
      have e8 : iI 8 * iI (numP p t : Nat) + iI (p t : Int) = iI (numP p (t + 1) : Nat) := by
        rw [iI_mul, iI_add]
        rfl
      by_cases c0 : t = 0
      · simp (disch := omega) only [mX10_rise_L19, W, Option.bind_some, (h.mx X').2.2.1.1, iI_le, he2, he t ht2, iL, nm, e8, mX10_rise_69, iI_add]
        rw [if_neg (by omega), if_pos (by omega)]
        exact Or.inl ⟨_, rfl, ⟨t + 1, X', by omega, rfl, hq.iff (fun i j v _ => (ordR_1 (by omega) i j v).trans (ordR_1 (by omega) i j v).symm)⟩, mu⟩
      · have pt' := hp (t - 1) (by omega)
        have ne : p (t - 1) ≠ p t := fun z => by have := hi (t - 1) t (by omega) ht2 z; omega
        have e1 : e 18 ((t : Int) - 1) = p (t - 1) := by
          have := he (t - 1) (by omega)
          rw [show ((t - 1 : Nat) : Int) = (t : Int) - 1 by omega] at this
          exact this
        have xr := hq.R (show p (t - 1) < 9 by omega) (show p t < 9 by omega)
        have L2 := hq.add (p := p (t - 1)) (q := p t) (v := 1) (Or.inl pt') (Or.inl pt) ne (by omega)
        rw [pn_w (show p (t - 1) < 8 by omega), pn_w (show p t < 8 by omega)] at L2
        simp (disch := omega) only [mX10_rise_L19, W, Option.bind_some, (h.mx X').2.2.1.1, iI_le, he2, he t ht2, iL, nm, e8, mX10_rise_69, iI_add, iI_sub, e1, m_least (n := n) (f := f) (e := e) hS (show p (t - 1) < 9 by omega) (show p t < 9 by omega) (show -2000000000 ≤ X' (p (t - 1)) (p t) ∧ X' (p (t - 1)) (p t) ≤ 2000000000 by omega) (show -2000000000 ≤ (1 : Int) ∧ (1 : Int) ≤ 2000000000 by omega)]
        rw [if_neg (by omega), if_neg (by omega)]
        exact Or.inl ⟨_, rfl, ⟨t + 1, _, by omega, rfl, L2.iff (fun i j v _ => ordR_more (by omega) i j v)⟩, mu⟩
theorem m_rise (hS : Msh M σ) (hA : Wf A) (h6 : wn A ≤ 6) {x : Int32} {wt : Int} (hwt : RI wt) (hx : un x < 2147483648) (hn : 100000 ≤ n) : ∀ (d r k : Nat) (p : Nat → Nat) (st : Nat × Int) (s : Sg) (mask : Int32), k + r = wn A → r < d → (∀ t, t < k → p t < wn A) → (∀ t u, t < k → u < k → p t = p u → t = u) → RWd M σ A p k wt st s → (∀ y, y < 32 → (bt (un mask) y ↔ usd p k y)) → un mask < 2147483648 → st.1 + 6 ^ r ≤ 100000 → (-1 ≤ st.2 ∧ st.2 ≤ 300000) →
    ∃ s', mX10_rise n d s M x (iI k) mask = some s' ∧ RWd M σ A p k wt (oE A (un x) wt r k p st) s' := by
  have W := mAll hS
  intro d
  induction d with
  | zero => intro r k p st s mask hk hd; omega
  | succ d ih =>
    intro r k p st s mask hk hd hp hi hR hM hm hb hst
    have hR0 := hR
    obtain ⟨f, e, rfl, h, h38, h39, h40, h18⟩ := hR
    simp (disch := omega) only [mX10_rise, eX10_rise, W, Option.bind_some, h.2.2.1.1, iI_eq]
    cases r with
    | zero =>
      have kw : k = wn A := by omega
      subst kw
      have hb' : st.1 + 1 ≤ 100000 := hb
      rw [if_pos rfl]
      obtain ⟨X, l1, l2⟩ := m_lay (n := n) hS h hA hx hn
      obtain ⟨X2, k1, k2⟩ := m_row (n := n) (r := mX10_rise n d) hS h hA h6 h18 hp hi l2 hn
      obtain ⟨X3, c1⟩ := m_close (n := n) (f := f) (e := e) hS hA k2 (fun i j v q => Or.inl (Or.inl q)) hn
      simp only [l1, Option.bind_some, iL, k1]
      have e18 : ∀ t : Nat, t < wn A → setR e 15 (dX (e 15) X3) 18 (t : Int) = p t := fun t ht => by
        unfold setR
        rw [if_neg (by omega)]
        exact h18 t ht
      have hwt' := hwt
      unfold RI at hwt'
      have eo : oE A (un x) wt 0 (wn A) p st = lf A (un x) wt p st := rfl
      rw [eo]
      rcases c1 with ⟨c1, c2⟩ | ⟨c1, c2⟩
      · have fe : feas A (un x) p (wn A) := ⟨_, c2.1⟩
        rw [lf_yes fe]
        simp (disch := omega) only [c1, Option.bind_some, W, h38, h39, iI_eq, mX10_rise_103, h40]
        rw [if_neg (by omega)]
        have u38 : ∀ v : Int, updZ f 40 v 38 = st.1 := fun v => by unfold updZ; rw [if_neg (by omega)]; exact h38
        by_cases c : (st.1 : Int) = wt
        · rw [if_pos c, if_pos c]
          simp only [u38, iI_s1, W, Option.bind_some]
          refine ⟨_, rfl, _, _, rfl, ((h.mx X3).sc (Sc.f 40 _ (by omega))).sc (Sc.f 38 _ (by omega)), ?_, ?_, ?_, e18⟩
          · rw [updZ_same]; rfl
          · unfold updZ; rw [if_neg (by omega), if_neg (by omega)]; exact h39
          · unfold updZ; rw [if_neg (by omega), if_pos rfl]
        · rw [if_neg c, if_neg c]
          simp only [u38, iI_s1, W, Option.bind_some]
          refine ⟨_, rfl, _, _, rfl, ((h.mx X3).sc (Sc.f 40 _ (by omega))).sc (Sc.f 38 _ (by omega)), ?_, ?_, ?_, e18⟩
          · rw [updZ_same]; rfl
          · unfold updZ; rw [if_neg (by omega), if_neg (by omega)]; exact h39
          · unfold updZ; rw [if_neg (by omega), if_pos rfl]
      · have fe : ¬ feas A (un x) p (wn A) := fun ⟨Y, hY⟩ => c2 Y hY
        rw [lf_no fe]
        simp only [c1, Option.bind_some, if_true]
        exact ⟨_, rfl, _, _, rfl, h.mx X3, h38, h39, h40, e18⟩
    | succ r =>
      rw [if_neg (by omega)]
      have pw : 6 ^ (r + 1) = 6 ^ r * 6 := by rw [Nat.pow_succ]
      generalize hG : oG p k (fun q s => oE A (un x) wt r (k + 1) q s) = G
      have eo : oE A (un x) wt (r + 1) k p st = oF G (wn A) st := by rw [← hG]; rfl
      rw [eo]
      have key := loop_inv (body := mX10_rise_L120 n (mX10_rise n d) M x (iI k) mask)
        (fun c => ∃ t : Nat, c.2 = iI t ∧ t ≤ wn A ∧ RWd M σ A p k wt (oF G t st) c.1) (fun c => wn A - c.2.toNatClampNeg)
        (fun s => RWd M σ A p k wt (oF G (wn A) st) s) ?_ n (MW M σ f e, iI 0) ⟨0, rfl, by omega, hR0⟩ (by show wn A - (iI 0).toNatClampNeg < n; omega)
      · obtain ⟨s5, k1, k2⟩ := key
        simp only [iL, k1, Option.bind_some]
        exact ⟨s5, rfl, k2⟩
      · rintro ⟨s', x'⟩ ⟨t, hx', ht, R1⟩
        simp only at hx' R1
        subst hx'
        have R1' := R1
        obtain ⟨f1, e1, rfl, h1, h138, h139, h140, h118⟩ := R1
        by_cases ct : t = wn A
        · subst ct
          refine Or.inr ⟨MW M σ f1 e1, ?_, R1'⟩
          simp (disch := omega) only [mX10_rise_L120, W, Option.bind_some, h1.2.2.1.1, iI_le]
          rw [if_pos (by omega)]
        · have ht2 : t < wn A := by omega
          have mu : wn A - (iI ((t : Int) + 1)).toNatClampNeg < wn A - (iI (t : Int)).toNatClampNeg := by
            rw [iI_clamp (by omega) (by omega), iI_clamp (by omega) (by omega)]
            omega
          have so : oF G (t + 1) st = G t (oF G t st) := rfl
          simp (disch := omega) only [mX10_rise_L120, W, Option.bind_some, h1.2.2.1.1, iI_le, iL, mX10_rise_160, iI_add, m_bt0 hm (show t < 32 by omega)]
          rw [if_neg (by omega)]
          by_cases cb : bt (un mask) t
          · rw [if_neg (fun q => q cb)]
            refine Or.inl ⟨_, rfl, ⟨t + 1, rfl, by omega, ?_⟩, mu⟩
            rw [so, ← hG, oG_used ((hM t (by omega)).mp cb), hG]
            exact R1'
          · rw [if_pos cb]
            have nu : ¬ usd p k t := fun q => cb ((hM t (by omega)).mpr q)
            have eG : G t (oF G t st) = oE A (un x) wt r (k + 1) (setP p k t) (oF G t st) := by rw [← hG, oG_free nu]
            have bl := oF_le (g := G) (K := 6 ^ r) (fun w st => by
              rw [← hG]
              rcases oG_or (p := p) (k := k) (h := fun q s => oE A (un x) wt r (k + 1) q s) w st with z | z
              · rw [z]; exact Nat.le_add_right _ _
              · rw [z]; exact oE_le h6 r (k + 1) _ st) st t
            have b2 := Nat.mul_le_mul_right (6 ^ r) (show t + 1 ≤ 6 by omega)
            rw [Nat.succ_mul] at b2
            have oR : -1 ≤ (oF G t st).2 ∧ (oF G t st).2 ≤ 300000 := by
              refine oF_P (fun st => -1 ≤ st.2 ∧ st.2 ≤ 300000) hst _ (fun w st hw q => ?_)
              rw [← hG]
              rcases oG_or (p := p) (k := k) (h := fun q s => oE A (un x) wt r (k + 1) q s) w st with z | z
              · rw [z]; exact q
              · rw [z]
                refine oE_R h6 r (k + 1) _ st (by omega) (fun t' ht' => ?_) q
                unfold setP
                split
                · omega
                · exact hp t' (by omega)
            have S3 : RWd M σ A (setP p k t) (k + 1) wt (oF G t st) (MW M σ f1 (ups e1 18 k t)) := by
              refine ⟨f1, _, rfl, h1.sc (Sc.e 18 _ _ (by omega)), h138, h139, h140, fun u hu => ?_⟩
              unfold ups
              rw [if_pos rfl]
              unfold upj
              by_cases z : u = k
              · rw [if_pos (by omega), z, setP_at]
              · rw [if_neg (by omega), setP_low (by omega)]; exact h118 u (by omega)
            have uo : un (mask ||| (iI 1 <<< (iI (t : Int) &&& iI 31))) = un mask ||| 2 ^ t := un_orb mask (show t < 32 by omega)
            obtain ⟨s4, r4, R4⟩ := ih r (k + 1) (setP p k t) (oF G t st) _ (mask ||| (iI 1 <<< (iI (t : Int) &&& iI 31))) (by omega) (by omega)
              (fun t' ht' => by
                unfold setP
                split
                · omega
                · exact hp t' (by omega))
              (fun u v hu hv q => by
                by_cases zu : u = k
                · by_cases zv : v = k
                  · omega
                  · rw [zu, setP_at, setP_low (by omega)] at q
                    exact absurd ⟨v, by omega, q.symm⟩ nu
                · by_cases zv : v = k
                  · rw [zv, setP_at, setP_low (by omega)] at q
                    exact absurd ⟨u, by omega, q⟩ nu
                  · rw [setP_low (by omega), setP_low (by omega)] at q
                    exact hi u v (by omega) (by omega) q) S3
              (fun y hy => by
                rw [uo, bt_or, hM y hy]
                constructor
                · rintro (⟨a, a1, a2⟩ | rfl)
                  · exact ⟨a, by omega, by rw [setP_low a1]; exact a2⟩
                  · exact ⟨k, by omega, setP_at⟩
                · rintro ⟨a, a1, a2⟩
                  by_cases z : a = k
                  · rw [z, setP_at] at a2; exact Or.inr a2.symm
                  · rw [setP_low (by omega)] at a2; exact Or.inl ⟨a, by omega, a2⟩)
              (by
                rw [uo]
                have p31 : (2147483648 : Nat) = 2 ^ 31 := rfl
                rw [p31] at hm ⊢
                exact Nat.or_lt_two_pow hm (Nat.pow_lt_pow_right (by omega) (by omega))) (by omega) oR
            have r4' : mX10_rise n d (MW M σ f1 (ups e1 18 (k : Int) (t : Int))) M x (iI ((k : Int) + 1)) (mask ||| (iI 1 <<< (iI (t : Int) &&& iI 31))) = some s4 := r4
            simp (disch := omega) only [W, Option.bind_some, r4']
            refine Or.inl ⟨_, rfl, ⟨t + 1, rfl, by omega, ?_⟩, mu⟩
            rw [so, eG]
            exact R4.sub (by omega) (fun u hu => (setP_low hu).symm)
theorem m_orders (hS : Msh M σ) (h : MH A f e) (hA : Wf A) (x : Int32) {i : Int} (hi : RI i) (hn : 100000 ≤ n) : ∃ r f' e', mX10_orders n (MW M σ f e) M x (iI i) = some (iI r, MW M σ f' e') ∧ MH A f' e' ∧ Two (-1 ≤ i ∧ wn A ≤ 6) (-1) (Qry A x (-1) (FOrd A x i)) r := by
  have W := mAll hS
  have h8 := hA.2.2.1.1
  have hi' := hi
  unfold RI at hi'
  unfold mX10_orders
  simp only [W, Option.bind_some, m_isSet hS h hA x, iL, iI_neg, bI_0]
  by_cases c : un x < 2 ^ fn A
  · rw [if_neg (fun q => q c)]
    have hx := set20 hA c
    simp (disch := omega) only [h.2.2.1.1, iI_lt]
    by_cases c1 : wn A ≤ 6
    · rw [if_neg (by omega)]
      have p6 := pow6 c1
      obtain ⟨X, hq⟩ := m_canBe (n := n) hS h hA (show un x < 2147483648 by omega) hn
      rcases hq with ⟨q1, q2⟩ | ⟨q1, q2⟩
      · simp only [q1, Option.bind_some, W]
        rw [if_neg (by decide)]
        have S0 : RWd M σ A (fun _ => 0) 0 i (0, -1) (MW M σ (updZ (updZ (updZ f 38 0) 39 i) 40 (-1)) (setR e 15 (dX (e 15) X))) := by
          refine ⟨_, _, rfl, (((h.mx X).sc (Sc.f 38 _ (by omega))).sc (Sc.f 39 _ (by omega))).sc (Sc.f 40 _ (by omega)), ?_, ?_, ?_, fun k hk => by omega⟩
          · unfold updZ; rw [if_neg (by omega), if_neg (by omega), if_pos rfl]; rfl
          · unfold updZ; rw [if_neg (by omega), if_pos rfl]
          · unfold updZ; rw [if_pos rfl]
        obtain ⟨s', r1, ⟨f3, e3, rfl, h3, h338, h339, h340, -⟩⟩ := m_rise (n := n) hS hA c1 hi (show un x < 2147483648 by omega) hn 9 (wn A) 0 (fun _ => 0) (0, -1) _ (iI 0) (by omega) (by omega) (fun t ht => by omega) (fun t u ht => by omega) S0
          (fun y hy => by
            constructor
            · intro q
              have z : un (iI 0) = 0 := rfl
              rw [z] at q
              unfold bt at q
              rw [Nat.zero_div] at q
              omega
            · rintro ⟨a, q, -⟩; omega) (by decide) (by show 0 + 6 ^ wn A ≤ 100000; omega) (by show -1 ≤ (-1 : Int) ∧ (-1 : Int) ≤ 300000; omega)
        have r1' : mX10_rise n 9 (MW M σ (updZ (updZ (updZ f 38 0) 39 i) 40 (-1)) (setR e 15 (dX (e 15) X))) M x (iI 0) (iI 0) = some (MW M σ f3 e3) := r1
        simp (disch := omega) only [r1', Option.bind_some, W, h338, h340, iI_eq]
        by_cases c2 : i = -1
        · rw [if_pos c2]
          refine ⟨_, f3, e3, rfl, h3, Or.inr ⟨⟨by omega, c1⟩, Or.inl ⟨c, _, q2, ?_⟩⟩⟩
          unfold FOrd
          rw [if_pos c2]
        · rw [if_neg c2]
          refine ⟨_, f3, e3, rfl, h3, ?_⟩
          by_cases c3 : i < -1
          · have nf := (oE_found (A := A) (S := un x) (wt := i) (wn A) 0 (fun _ => 0) (0, -1) (-1) rfl (by show i < ((0 : Nat) : Int); omega)).1
            exact Or.inl ⟨by omega, nf⟩
          · refine Or.inr ⟨⟨by omega, c1⟩, Or.inl ⟨c, _, q2, ?_⟩⟩
            unfold FOrd
            rw [if_neg c2]
      · simp only [q1, Option.bind_some, if_true]
        refine ⟨-1, f, _, rfl, h.mx X, ?_⟩
        by_cases c3 : i < -1
        · exact Or.inl ⟨by omega, rfl⟩
        · exact Or.inr ⟨⟨by omega, c1⟩, Or.inr ⟨Or.inr q2, rfl⟩⟩
    · rw [if_pos (by omega)]
      exact ⟨-1, f, e, rfl, h, Or.inl ⟨fun q => c1 q.2, rfl⟩⟩
  · rw [if_pos c]
    refine ⟨-1, f, e, rfl, h, ?_⟩
    by_cases c1 : -1 ≤ i ∧ wn A ≤ 6
    · exact Or.inr ⟨c1, Or.inr ⟨Or.inl c, rfl⟩⟩
    · exact Or.inl ⟨c1, rfl⟩
end X74
