/-! ===== the reference: look ===== -/
section X62
variable {M n : Nat} {σ : Sg} {A : AS} {f : Nat → Int} {e : Nat → Int → Int} {X : Nat → Nat → Int}
theorem m_lay' (hS : Msh M σ) (h : MH A f e) (hA : Wf A) {x : Int32} (hx : un x < 2147483648) (hn : 100000 ≤ n) (X0 : Nat → Nat → Int) : ∃ X, mX10_lay n (MX M σ f e X0) M x = some (MX M σ f e X) ∧ Lay A (conR A (un x) (fn A)) X := by
  obtain ⟨X, h1, h2⟩ := m_lay (n := n) hS (h.mx X0) hA hx hn
  rw [MX_MX] at h1
  exact ⟨X, h1, h2⟩
theorem addX_LM {S : Nat} {Z : Nat → Nat → Int} (hZ : LSx A S Z) {o u : Nat} {r : Int} (ho : o < wn A + 1) (hu : u < wn A + 1) (hf : Z o u + r ≤ 0) : LM (wn A + 1) (arcR (conR A S (fn A)) u o r) (addX Z o u r) := hZ.add ho hu hf
theorem Sm.of (hA : Wf A) {R : Nat → Nat → Int → Prop} (hR : ∀ i j v, frR (day A) i j v → R i j v) (h : CM (wn A + 1) R (ZX X)) : Sm A X := by
  intro p q hp hq
  have hd := hA.1
  have e1 := ex_pn hA hp
  have e2 := ex_pn hA hq
  have a := h.within hR (by omega) e1.1 e2.1
  have n1 : ∀ p, nd (pn p) = p := fun p => by
    unfold pn
    by_cases c : p = 8
    · rw [if_pos c, c]; rfl
    · rw [if_neg c, nd_s]
  have b : -(day A : Int) ≤ X (nd (pn p)) (nd (pn q)) ∧ X (nd (pn p)) (nd (pn q)) ≤ day A := a
  rw [n1, n1] at b
  omega
theorem m_spanWith (hS : Msh M σ) (h : MH A f e) (hA : Wf A) {x : Int32} (hx : un x < 2147483648) {Z : Nat → Nat → Int} (hZ : LSx A (un x) Z) {a b k : Nat} (ha : a < wn A) (hb : b < wn A) (hab : a ≠ b) (hk : k < 256) (hn : 100000 ≤ n) (X0 : Nat → Nat → Int) : ∃ X, mX10_spanWith n (MX M σ f e X0) M x (iI a) (iI b) (iI k) = some (iI (spW Z (wn A) (a + 1) (b + 1) (lea A a b k)), MX M σ f e X) := by
  have W := mAll hS
  have h8 := hA.2.2.1.1
  obtain ⟨X1, l1, l2⟩ := m_lay' (n := n) hS h hA hx hn X0
  have lr := lea_R hA ha hb k
  have L2 := l2.add (p := b) (q := a) (v := lea A a b k) (Or.inl hb) (Or.inl ha) (fun q => hab q.symm) (by omega)
  rw [pn_w (show a < 8 by omega), pn_w (show b < 8 by omega)] at L2
  have hR : ∀ i j v, frR (day A) i j v → arcR (conR A (un x) (fn A)) (b + 1) (a + 1) (lea A a b k) i j v := fun i j v q => Or.inl (Or.inl q)
  obtain ⟨X2, c1⟩ := m_close (n := n) (f := f) (e := e) hS hA L2 hR hn
  refine ⟨X2, ?_⟩
  unfold mX10_spanWith
  simp only [W, Option.bind_some, l1, m_above hS h hA l2 ha hb hk hn, iL]
  unfold spW
  rcases c1 with ⟨c1, c2⟩ | ⟨c1, c2⟩
  · have c1' : mX10_close n (MX M σ f e (umx X1 b a (mad (wk A b) k - mad (wk A a) k + 1))) M = some (iI 1, MX M σ f e X2) := c1
    simp only [c1', Option.bind_some]
    rw [if_neg (by decide)]
    have fe : Z (a + 1) (b + 1) + lea A a b k ≤ 0 := by
      refine Classical.byContradiction fun q => ?_
      exact hZ.bad (show a + 1 < wn A + 1 by omega) (show b + 1 < wn A + 1 by omega) (by omega) _ c2.1
    rw [if_pos fe, m_spanNow hS h hA (Sm.of hA hR c2.1) hn]
    have eq := addX_LM hZ (show a + 1 < wn A + 1 by omega) (show b + 1 < wn A + 1 by omega) fe
    simp only [Option.bind_some]
    rw [spn_congr (X := ZX X2) (X' := addX Z (a + 1) (b + 1) (lea A a b k)) (wn A) (fun i j hi hj => c2.unique eq hi hj)]
  · have c1' : mX10_close n (MX M σ f e (umx X1 b a (mad (wk A b) k - mad (wk A a) k + 1))) M = some (iI 0, MX M σ f e X2) := c1
    simp only [c1', Option.bind_some, if_true]
    rw [if_neg (fun fe => c2 _ (addX_LM hZ (show a + 1 < wn A + 1 by omega) (show b + 1 < wn A + 1 by omega) fe).1)]
/-- the reference's best crossing -/
def gM (f : Nat → Int) (g : Int × Int × Int × Int) : Prop := f 29 = g.1 ∧ ((g = (-1, -1, -1, -1)) ∨ (0 ≤ g.1 ∧ g.1 < 8 ∧ 0 ≤ g.2.2.2 ∧ f 30 = g.2.1 ∧ f 31 = g.2.2.1 ∧ f 32 = g.2.2.2)) ∧ g.2.2.2 ≤ 2000000
theorem spn_ge {R : Nat → Nat → Int → Prop} {Z : Nat → Nat → Int} {w : Nat} (h : CM (w + 1) R Z) : ∀ t, t ≤ w → 0 ≤ spn Z t
  | 0, _ => Int.le_refl 0
  | t + 1, ht => by
    have ih := spn_ge h t (by omega)
    have a := h.2.2 (t + 1) 0 (t + 1) (by omega) (by omega) (by omega)
    have b := h.1 (t + 1) (by omega)
    unfold spn
    omega
theorem spW_ge {S : Nat} {Z : Nat → Nat → Int} (hZ : LSx A S Z) {o u : Nat} {r : Int} (ho : o < wn A + 1) (hu : u < wn A + 1) : 0 ≤ spW Z (wn A) o u r := by
  unfold spW
  split
  · rename_i q
    exact spn_ge (addX_LM hZ ho hu q).1 (wn A) (Nat.le_refl _)
  · exact Int.le_refl 0
theorem spW_le (hA : Wf A) {S : Nat} {Z : Nat → Nat → Int} (hZ : LSx A S Z) {o u : Nat} {r : Int} (ho : o < wn A + 1) (hu : u < wn A + 1) : spW Z (wn A) o u r ≤ 2000000 := by
  have hd := hA.1
  have h8 := hA.2.2.1.1
  unfold spW
  split
  · rename_i q
    have L := addX_LM hZ ho hu q
    have hR : ∀ i j v, frR (day A) i j v → arcR (conR A S (fn A)) u o r i j v := fun i j v q => Or.inl (Or.inl q)
    have s := (spn_abs (X := addX Z o u r) (b := 2000) (wn A) (fun i hi => by
      have a := L.1.within hR (by omega) (show i < wn A + 1 by omega) (show 0 < wn A + 1 by omega)
      have b := L.1.within hR (by omega) (show 0 < wn A + 1 by omega) (show i < wn A + 1 by omega)
      omega)).2
    omega
  · omega
theorem m_weigh (hS : Msh M σ) (h : MH A f e) (hA : Wf A) {x : Int32} (hx : un x < 2147483648) {Z : Nat → Nat → Int} (hZ : LSx A (un x) Z) {g : Int × Int × Int × Int} (hg : gM f g) {a b k : Nat} (ha : a < wn A) (hb : b < wn A) (hab : a ≠ b) (hk : k < 256) (hbo : both (wk A a) (wk A b) k) (hn : 100000 ≤ n) (X0 : Nat → Nat → Int) : ∃ X f', mX10_weigh n (MX M σ f e X0) M x (iI a) (iI b) (iI k) = some (MX M σ f' e X) ∧ MH A f' e ∧ gM f' (gst A Z a b k g) := by
  have W := mAll hS
  have h8 := hA.2.2.1.1
  obtain ⟨X1, cb⟩ := m_canBe' (n := n) hS h hA hx hn X0
  rcases cb with ⟨c1, c2⟩ | ⟨c1, c2⟩
  · have hX := LSx.sm hA c2
    have ev : verd (ZX X1) a b (lea A a b k) = verd Z a b (lea A a b k) := by
      have u1 : ZX X1 (b + 1) (a + 1) = Z (b + 1) (a + 1) := c2.unique hZ (show b + 1 < wn A + 1 by omega) (show a + 1 < wn A + 1 by omega)
      have u2 : ZX X1 (a + 1) (b + 1) = Z (a + 1) (b + 1) := c2.unique hZ (show a + 1 < wn A + 1 by omega) (show b + 1 < wn A + 1 by omega)
      unfold verd
      rw [u1, u2]
    have vR := verd_R Z a b (lea A a b k)
    obtain ⟨X2, s1⟩ := m_spanWith (n := n) hS h hA hx hZ ha hb hab hk hn X1
    obtain ⟨X3, s2⟩ := m_spanWith (n := n) hS h hA hx hZ hb ha (fun q => hab q.symm) hk hn X2
    have g1 := spW_ge hZ (o := a + 1) (u := b + 1) (r := lea A a b k) (by omega) (by omega)
    have g2 := spW_ge hZ (o := b + 1) (u := a + 1) (r := lea A b a k) (by omega) (by omega)
    have g3 := spW_le hA hZ (o := a + 1) (u := b + 1) (r := lea A a b k) (by omega) (by omega)
    have g4 := spW_le hA hZ (o := b + 1) (u := a + 1) (r := lea A b a k) (by omega) (by omega)
    have wdef : max (spW Z (wn A) (a + 1) (b + 1) (lea A a b k)) (spW Z (wn A) (b + 1) (a + 1) (lea A b a k)) = wei A Z a b k := rfl
    have wR : 0 ≤ wei A Z a b k ∧ wei A Z a b k ≤ 2000000 := by rw [← wdef]; omega
    unfold mX10_weigh
    simp only [W, Option.bind_some, c1, m_sureOf hS h hA hX ha hb hk hn, iL, iI_neg, s1, s2, nm]
    rw [jmax_iI (RI.sm (by omega) (by omega)) (RI.sm (by omega) (by omega)), wdef, ev]
    unfold gst
    by_cases d1 : verd Z a b (lea A a b k) = -1
    · rw [if_pos (by rw [d1])]
      have set : ∃ f', mX10_weigh_59 n (MX M σ f e X3) M (iI a) (iI b) (iI k) (iI (wei A Z a b k)) = some (MX M σ f' e X3) ∧ MH A f' e ∧ gM f' ((a : Int), (b : Int), (k : Int), wei A Z a b k) := by
        unfold mX10_weigh_59
        simp only [W, Option.bind_some]
        exact ⟨_, rfl, h.sc ((((Sc.f 29 _ (by omega)).trans (Sc.f 30 _ (by omega))).trans (Sc.f 31 _ (by omega))).trans (Sc.f 32 _ (by omega))), rfl, Or.inr ⟨by omega, by show (a : Int) < 8; omega, wR.1, rfl, rfl, rfl⟩, wR.2⟩
      obtain ⟨f', t1, t2, t3⟩ := set
      obtain ⟨hg1, hg2, hg3⟩ := hg
      rcases hg2 with hg2 | ⟨k1, k2, k3, k4, k5, k6⟩
      · rw [hg1, hg2, if_pos (by decide), if_pos ⟨hbo, d1, Or.inl rfl⟩]
        exact ⟨X3, f', t1, t2, t3⟩
      · rw [hg1, k6]
        rw [if_neg (fun q => by rw [iI_eq (by omega) (by omega)] at q; omega)]
        by_cases d2 : g.2.2.2 ≤ wei A Z a b k
        · rw [if_pos ((iI_le (by omega) (by omega)).mpr d2), if_neg (fun q => by have := q.2.2; omega)]
          exact ⟨X3, f, rfl, h, hg1, Or.inr ⟨k1, k2, k3, k4, k5, k6⟩, hg3⟩
        · rw [if_neg (fun q => d2 ((iI_le (by omega) (by omega)).mp q)), if_pos ⟨hbo, d1, Or.inr (by omega)⟩]
          exact ⟨X3, f', t1, t2, t3⟩
    · rw [if_neg (fun q => d1 ((iI_eq (by omega) (by omega)).mp q)), if_neg (fun q => d1 q.2.1)]
      exact ⟨X1, f, rfl, h, hg⟩
  · exact absurd ⟨Z, hZ.1⟩ c2
/-- a state of the search for a crossing -/
def LkM (M : Nat) (σ : Sg) (A : AS) (e : Nat → Int → Int) (g : Int × Int × Int × Int) (s : Sg) : Prop := ∃ X f', s = MX M σ f' e X ∧ MH A f' e ∧ gM f' g
theorem m_lookCells (hS : Msh M σ) (hA : Wf A) {x : Int32} (hx : un x < 2147483648) {Z : Nat → Nat → Int} (hZ : LSx A (un x) Z) {g : Int × Int × Int × Int} {s : Sg} (h : LkM M σ A e g s) {a b : Nat} (ha : a < wn A) (hb : b < wn A) (hab : a ≠ b) (hn : 100000 ≤ n) : ∃ s', loopM (mX10_findLook_L30 n M x (iI a) (iI b)) n (s, iI 0) = some s' ∧ LkM M σ A e (gC A Z a b g 256) s' := by
  refine loop_inv (body := mX10_findLook_L30 n M x (iI a) (iI b)) (fun c => ∃ t : Nat, t ≤ 256 ∧ c.2 = iI (t : Int) ∧ LkM M σ A e (gC A Z a b g t) c.1) (fun c => 256 - c.2.toNatClampNeg) (fun s' => LkM M σ A e (gC A Z a b g 256) s') ?_ n (s, iI 0) ⟨0, by omega, rfl, h⟩ (by show 256 - _ < n; omega)
  rintro ⟨c1, c2⟩ ⟨t, t1, t2, X, f', t3, t4, t5⟩
  have t2 : c2 = iI (t : Int) := t2
  have t3 : c1 = MX M σ f' e X := t3
  subst t2 t3
  by_cases ct : t = 256
  · subst ct
    refine Or.inr ⟨MX M σ f' e X, ?_, X, f', rfl, t4, t5⟩
    simp (disch := omega) only [mX10_findLook_L30, iL, iI_le]
    rw [if_pos (by omega)]
  · have z0 : (iI (t : Int)).toNatClampNeg = t := by rw [iI_clamp (by omega) (by omega)]; omega
    have z1 : (iI ((t : Int) + 1)).toNatClampNeg = t + 1 := by rw [iI_clamp (by omega) (by omega)]; omega
    have hm : 256 - (iI ((t : Int) + 1)).toNatClampNeg < 256 - (iI (t : Int)).toNatClampNeg := by omega
    simp (disch := omega) only [mX10_findLook_L30, iL, iI_le, m_cross hS (t4.mx X) hA ha hb (show t < 256 by omega) hn, Option.bind_some, bI_0, mX10_findLook_58, iI_add]
    rw [if_neg (by omega)]
    by_cases d : both (wk A a) (wk A b) t
    · rw [if_neg (fun q => q d)]
      obtain ⟨X', f2, w1, w2, w3⟩ := m_weigh (n := n) hS t4 hA hx hZ t5 ha hb hab (show t < 256 by omega) d hn X
      simp only [w1, Option.bind_some]
      exact Or.inl ⟨_, rfl, ⟨t + 1, by omega, rfl, X', f2, rfl, w2, w3⟩, hm⟩
    · rw [if_pos d]
      refine Or.inl ⟨_, rfl, ⟨t + 1, by omega, rfl, X, f', rfl, t4, ?_⟩, hm⟩
      show gM f' (gst A Z a b t (gC A Z a b g t))
      unfold gst
      rw [if_neg (fun q => d q.1)]
      exact t5
theorem m_lookRow (hS : Msh M σ) (hA : Wf A) {x : Int32} (hx : un x < 2147483648) {Z : Nat → Nat → Int} (hZ : LSx A (un x) Z) {g : Int × Int × Int × Int} {s : Sg} (h : LkM M σ A e g s) {a : Nat} (ha : a < wn A) (hn : 100000 ≤ n) : ∃ s', loopM (mX10_findLook_L19 n M x (iI a)) n (s, iI ((a : Int) + 1)) = some s' ∧ LkM M σ A e (gB A Z a g (wn A)) s' := by
  have W := mAll hS
  have h8 := hA.2.2.1.1
  refine loop_inv (body := mX10_findLook_L19 n M x (iI a)) (fun c => ∃ t : Nat, a + 1 ≤ t ∧ t ≤ wn A ∧ c.2 = iI (t : Int) ∧ LkM M σ A e (gB A Z a g t) c.1) (fun c => wn A - c.2.toNatClampNeg) (fun s' => LkM M σ A e (gB A Z a g (wn A)) s') ?_ n (s, iI ((a : Int) + 1)) ⟨a + 1, by omega, by omega, rfl, by rw [gB_low Z a g (a + 1) (by omega)]; exact h⟩ (by show wn A - _ < n; omega)
  rintro ⟨c1, c2⟩ ⟨t, t0, t1, t2, hL⟩
  have t2 : c2 = iI (t : Int) := t2
  subst t2
  obtain ⟨X, f', t3, t4, t5⟩ := id hL
  have t3 : c1 = MX M σ f' e X := t3
  subst t3
  have e20 : f' 20 = wn A := t4.2.2.1.1
  by_cases ct : t = wn A
  · refine Or.inr ⟨MX M σ f' e X, ?_, by rw [← ct]; exact hL⟩
    simp (disch := omega) only [mX10_findLook_L19, W, Option.bind_some, e20, iI_le]
    rw [if_pos (by omega)]
  · have z0 : (iI (t : Int)).toNatClampNeg = t := by rw [iI_clamp (by omega) (by omega)]; omega
    have z1 : (iI ((t : Int) + 1)).toNatClampNeg = t + 1 := by rw [iI_clamp (by omega) (by omega)]; omega
    have hm : wn A - (iI ((t : Int) + 1)).toNatClampNeg < wn A - (iI (t : Int)).toNatClampNeg := by omega
    obtain ⟨s', k1, k2⟩ := m_lookCells (n := n) hS hA hx hZ hL ha (show t < wn A by omega) (show a ≠ t by omega) hn
    simp (disch := omega) only [mX10_findLook_L19, W, Option.bind_some, e20, iI_le, iL, k1, iI_add]
    rw [if_neg (by omega)]
    refine Or.inl ⟨_, rfl, ⟨t + 1, by omega, by omega, rfl, ?_⟩, hm⟩
    show LkM M σ A e (if a < t then gC A Z a t (gB A Z a g t) 256 else gB A Z a g t) s'
    rw [if_pos (by omega)]
    exact k2
theorem m_findLook (hS : Msh M σ) (h : MH A f e) (hA : Wf A) {x : Int32} (hx : un x < 2147483648) {Z : Nat → Nat → Int} (hZ : LSx A (un x) Z) (hn : 100000 ≤ n) (X : Nat → Nat → Int) : ∃ s', mX10_findLook n (MX M σ f e X) M x = some s' ∧ LkM M σ A e (gA A Z (wn A)) s' := by
  have W := mAll hS
  have h8 := hA.2.2.1.1
  have st : LkM M σ A e (-1, -1, -1, -1) (MX M σ (updZ f 29 (-1)) e X) := ⟨X, _, rfl, h.sc (Sc.f 29 _ (by omega)), rfl, Or.inl rfl, by show (-1 : Int) ≤ 2000000; omega⟩
  have key := loop_inv (body := mX10_findLook_L7 n M x) (fun c => ∃ t : Nat, t ≤ wn A ∧ c.2 = iI (t : Int) ∧ LkM M σ A e (gA A Z t) c.1) (fun c => wn A - c.2.toNatClampNeg) (fun s' => LkM M σ A e (gA A Z (wn A)) s') ?_ n (MX M σ (updZ f 29 (-1)) e X, iI 0) ⟨0, by omega, rfl, st⟩ (by show wn A - _ < n; omega)
  · obtain ⟨s', k1, k2⟩ := key
    refine ⟨s', ?_, k2⟩
    unfold mX10_findLook
    simp only [W, Option.bind_some, iL, iI_neg, k1]
  · rintro ⟨c1, c2⟩ ⟨t, t1, t2, hL⟩
    have t2 : c2 = iI (t : Int) := t2
    subst t2
    obtain ⟨X, f', t3, t4, t5⟩ := id hL
    have t3 : c1 = MX M σ f' e X := t3
    subst t3
    have e20 : f' 20 = wn A := t4.2.2.1.1
    by_cases ct : t = wn A
    · refine Or.inr ⟨MX M σ f' e X, ?_, by rw [← ct]; exact hL⟩
      simp (disch := omega) only [mX10_findLook_L7, W, Option.bind_some, e20, iI_le]
      rw [if_pos (by omega)]
    · have z0 : (iI (t : Int)).toNatClampNeg = t := by rw [iI_clamp (by omega) (by omega)]; omega
      have z1 : (iI ((t : Int) + 1)).toNatClampNeg = t + 1 := by rw [iI_clamp (by omega) (by omega)]; omega
      have hm : wn A - (iI ((t : Int) + 1)).toNatClampNeg < wn A - (iI (t : Int)).toNatClampNeg := by omega
      obtain ⟨s', k1, k2⟩ := m_lookRow (n := n) hS hA hx hZ hL (show t < wn A by omega) hn
      simp (disch := omega) only [mX10_findLook_L7, W, Option.bind_some, e20, iI_le, iL, nm, iI_add, k1]
      rw [if_neg (by omega)]
      exact Or.inl ⟨_, rfl, ⟨t + 1, by omega, rfl, k2⟩, hm⟩
theorem m_look (hS : Msh M σ) (h : MH A f e) (hA : Wf A) (x : Int32) {what : Int} (hq : RI what) (hn : 100000 ≤ n) : ∃ r f' e', mX10_look_ n (MW M σ f e) M x (iI what) = some (iI r, MW M σ f' e') ∧ MH A f' e' ∧ Two (0 ≤ what ∧ what ≤ 3) (-1) (Qry A x (-1) (FLook A what)) r := by
  have W := mAll hS
  unfold mX10_look_
  unfold RI at hq
  simp (disch := omega) only [W, Option.bind_some, m_isSet hS h hA x, m_in, iL, iI_neg, bI_0]
  by_cases c : un x < 2 ^ fn A
  · rw [if_neg (fun q => q c)]
    have hx := set20 hA c
    by_cases c2 : 0 ≤ what ∧ what ≤ 3
    · rw [if_neg (fun q => q c2)]
      obtain ⟨X, hq2⟩ := m_canBe (n := n) hS h hA (show un x < 2147483648 by omega) hn
      rcases hq2 with ⟨q1, q2⟩ | ⟨q1, q2⟩
      · simp only [q1, Option.bind_some]
        rw [if_neg (by decide)]
        obtain ⟨s', k1, X', f', rfl, k2, k3⟩ := m_findLook (n := n) hS h hA (show un x < 2147483648 by omega) q2 hn X
        simp (disch := omega) only [k1, Option.bind_some, W, iI_eq]
        obtain ⟨g1, g2, g3⟩ := k3
        have fin : ∀ r, r = pick (gA A (ZX X) (wn A)) what → ∃ r' f'' e'', some (iI r, MX M σ f' e X') = some (iI r', MW M σ f'' e'') ∧ MH A f'' e'' ∧ Two (0 ≤ what ∧ what ≤ 3) (-1) (Qry A x (-1) (FLook A what)) r' := fun r hr => ⟨r, f', _, rfl, k2.mx X', Or.inr ⟨c2, Or.inl ⟨c, _, q2, hr⟩⟩⟩
        rcases g2 with g2 | ⟨p1, p2, p3, p4, p5, p6⟩
        · rw [g1, g2, if_pos rfl]
          refine fin (-1) ?_
          rw [g2]
          unfold pick
          repeat' split
          all_goals rfl
        · rw [g1, p4, p5, p6, if_neg (fun q => by rw [iI_eq (by omega) (by omega)] at q; omega)]
          by_cases w0 : what = 0
          · rw [if_pos w0]
            exact fin _ (by unfold pick; rw [if_pos w0])
          · rw [if_neg w0]
            by_cases w1 : what = 1
            · rw [if_pos w1]
              exact fin _ (by unfold pick; rw [if_neg w0, if_pos w1])
            · rw [if_neg w1]
              by_cases w2 : what = 2
              · rw [if_pos w2]
                exact fin _ (by unfold pick; rw [if_neg w0, if_neg w1, if_pos w2])
              · rw [if_neg w2]
                exact fin _ (by unfold pick; rw [if_neg w0, if_neg w1, if_neg w2])
      · simp only [q1, Option.bind_some, if_true]
        exact ⟨-1, f, _, rfl, h.mx X, Or.inr ⟨c2, Or.inr ⟨Or.inr q2, rfl⟩⟩⟩
    · rw [if_pos c2]
      exact ⟨-1, f, e, rfl, h, Or.inl ⟨c2, rfl⟩⟩
  · rw [if_pos c]
    exact ⟨-1, f, e, rfl, h, mq_no c⟩
end X62
