/-! ===== the reference: walkers ===== -/
theorem cntO_rem {b : Nat} {g : Nat → Option Nat} (hb : (g b).isSome = true) : ∀ N, b < N → cntO (fun y => if y = b then none else g y) N + 1 = cntO g N
  | 0, h => by omega
  | N + 1, h => by
    by_cases c : b = N
    · subst c
      rw [cntO_s, cntO_s, if_pos rfl, hb]
      simp only [Option.isSome_none, Bool.false_eq_true, if_false, if_true]
      rw [cntO_congr (g := g) b (fun a ha => by simp only [if_neg (show ¬ a = b by omega)])]
    · have ih := cntO_rem hb N (by omega)
      rw [cntO_s, cntO_s, if_neg (show ¬ N = b by omega)]
      split <;> omega
theorem cntO_inj : ∀ (m : Nat) (f g : Nat → Option Nat) (N : Nat), (∀ a b, a < m → f a = some b → b < N ∧ (g b).isSome = true) → (∀ a c b, a < m → c < m → f a = some b → f c = some b → c = a) → cntO f m ≤ cntO g N
  | 0, _, _, _, _, _ => Nat.zero_le _
  | m + 1, f, g, N, h1, h2 => by
    cases hf : f m with
    | none =>
      have := cntO_inj m f g N (fun a b ha q => h1 a b (by omega) q) (fun a c b ha hc => h2 a c b (by omega) (by omega))
      rw [cntO_s, hf]
      exact this
    | some b =>
      obtain ⟨b1, b2⟩ := h1 m b (by omega) hf
      have r := cntO_rem b2 N b1
      have := cntO_inj m f (fun y => if y = b then none else g y) N (fun a c ha q => by
        obtain ⟨c1, c2⟩ := h1 a c (by omega) q
        refine ⟨c1, ?_⟩
        have nb : ¬ c = b := fun z => by
          subst z
          have := h2 a m c (by omega) (by omega) q hf
          omega
        simp only [if_neg nb]
        exact c2) (fun a c b ha hc => h2 a c b (by omega) (by omega))
      rw [cntO_s, hf]
      simp only [Option.isSome_some, if_true]
      omega
/-- the other way round -/
def inv (w : Nat) (g : Nat → Option Nat) : Nat → Option Nat := fun a => (List.range w).find? (fun b => decide (g b = some a))
theorem inv_some {w : Nat} {g : Nat → Option Nat} {a b : Nat} (h : inv w g a = some b) : b < w ∧ g b = some a := by
  have h1 := List.find?_some h
  have h2 := List.mem_of_find?_eq_some h
  exact ⟨List.mem_range.mp h2, of_decide_eq_true h1⟩
theorem inv_of {w : Nat} {g : Nat → Option Nat} {a b : Nat} (hb : b < w) (hg : g b = some a) (hi : ∀ c, c < w → g c = some a → c = b) : inv w g a = some b := by
  cases h : inv w g a with
  | none =>
    have := List.find?_eq_none.mp h b (List.mem_range.mpr hb)
    exact absurd (decide_eq_true hg) this
  | some c =>
    obtain ⟨c1, c2⟩ := inv_some h
    rw [hi c c1 c2]
def lpR (A : AS) (S : Nat) (pr : Nat → Option Nat) (m : Nat) : Nat → Nat → Int → Prop := fun i j v => conR A S (fn A) i j v ∨ ∃ b a, b < m ∧ pr b = some a ∧ i = a + 1 ∧ j = b + 1 ∧ v = wend (wk A a) + 1
def lpV (A : AS) (S : Nat) (pr : Nat → Option Nat) : Prop := lkW A pr (wn A) ∧ ∃ Y, CM (wn A + 1) (lpR A S pr (wn A)) Y
section X69
variable {M n : Nat} {σ : Sg} {A : AS} {f : Nat → Int} {e : Nat → Int → Int} {S : Nat}
theorem inv_W {g : Nat → Option Nat} (h : lkW A g (wn A)) : lkW A (inv (wn A) g) (wn A) ∧ cntO g (wn A) = cntO (inv (wn A) g) (wn A) ∧ ∀ a b, (inv (wn A) g a = some b ↔ b < wn A ∧ g b = some a) := by
  have i1 : ∀ a b, (inv (wn A) g a = some b ↔ b < wn A ∧ g b = some a) := fun a b => ⟨inv_some, fun q => inv_of q.1 q.2 (fun c hc hg => (h b a q.1 q.2).2.2.2 c hc hg)⟩
  refine ⟨fun a b ha q => ?_, ?_, i1⟩
  · obtain ⟨q1, q2⟩ := (i1 a b).mp q
    obtain ⟨w1, w2, w3, w4⟩ := h b a q1 q2
    refine ⟨q1, fun z => w2 z.symm, w3.symm, fun c hc qc => ?_⟩
    obtain ⟨q3, q4⟩ := (i1 c b).mp qc
    rw [q2] at q4
    cases q4
    rfl
  · refine Nat.le_antisymm (cntO_inj _ _ _ _ (fun a b ha q => ?_) (fun a c b ha hc qa qc => (h a b ha qa).2.2.2 c hc qc)) (cntO_inj _ _ _ _ (fun a b ha q => ?_) (fun a c b ha hc qa qc => ?_))
    · refine ⟨(h a b ha q).1, ?_⟩
      rw [(i1 b a).mpr ⟨ha, q⟩]
      rfl
    · obtain ⟨q1, q2⟩ := (i1 a b).mp q
      refine ⟨q1, ?_⟩
      rw [q2]
      rfl
    · obtain ⟨q1, q2⟩ := (i1 a b).mp qa
      obtain ⟨q3, q4⟩ := (i1 c b).mp qc
      rw [q2] at q4
      cases q4
      rfl
theorem inv_V {pr : Nat → Option Nat} (h : lpV A S pr) : lkV A S (inv (wn A) pr) ∧ cntO pr (wn A) = cntO (inv (wn A) pr) (wn A) := by
  obtain ⟨w1, w2, w3⟩ := inv_W h.1
  obtain ⟨Y, hY⟩ := h.2
  refine ⟨⟨w1, Y, hY.mono (fun i j v _ _ q => ?_)⟩, w2⟩
  rcases q with q | ⟨a, b, q1, q2, q3⟩
  · exact Or.inl q
  · obtain ⟨q4, q5⟩ := (w3 a b).mp q2
    exact Or.inr ⟨b, a, q4, q5, q3⟩
theorem inv_P {nx : Nat → Option Nat} (h : lkV A S nx) : lpV A S (inv (wn A) nx) ∧ cntO nx (wn A) = cntO (inv (wn A) nx) (wn A) := by
  obtain ⟨w1, w2, w3⟩ := inv_W h.1
  obtain ⟨Y, hY⟩ := h.2
  refine ⟨⟨w1, Y, hY.mono (fun i j v _ _ q => ?_)⟩, w2⟩
  rcases q with q | ⟨b, a, q1, q2, q3⟩
  · exact Or.inl q
  · obtain ⟨q4, q5⟩ := (w3 b a).mp q2
    exact Or.inr ⟨a, b, q4, q5, q3⟩
def enc (o : Option Nat) : Int := match o with
  | none => -1
  | some p => p
/-- a state of the reference's search for links -/
def SW (M : Nat) (σ : Sg) (A : AS) (pr : Nat → Option Nat) (w : Nat) (F : Int) (s : Sg) : Prop := ∃ f e, s = MW M σ f e ∧ MH A f e ∧ f 34 = F ∧ ∀ k : Nat, k < w → e 16 k = enc (pr k)
theorem SW.sub {pr pr' : Nat → Option Nat} {w w' : Nat} {F : Int} {s : Sg} (h : SW M σ A pr w F s) (hw : w' ≤ w) (hp : ∀ k, k < w' → pr' k = pr k) : SW M σ A pr' w' F s := by
  obtain ⟨f, e, h1, h2, h3, h4⟩ := h
  exact ⟨f, e, h1, h2, h3, fun k hk => by rw [hp k hk]; exact h4 k (by omega)⟩
theorem m_isTaken (hS : Msh M σ) (h : MH A f e) (hA : Wf A) {pr : Nat → Option Nat} {p w : Nat} (hw : w < wn A) (hp : p < wn A) (he : ∀ k : Nat, k < w → e 16 k = enc (pr k)) (hv : ∀ k a, k < w → pr k = some a → a < wn A) (hn : 100000 ≤ n) : ((∃ k, k < w ∧ pr k = some p) ∧ mX10_isTaken n (MW M σ f e) M (iI p) (iI w) = some (iI 1, MW M σ f e)) ∨ ((¬ ∃ k, k < w ∧ pr k = some p) ∧ mX10_isTaken n (MW M σ f e) M (iI p) (iI w) = some (iI 0, MW M σ f e)) := by
  have W := mAll hS
  have h8 := hA.2.2.1.1
  have key := loop_inv (body := mX10_isTaken_L2 n M (iI p) (iI w)) (fun s => ∃ t : Nat, t ≤ w ∧ s = (MW M σ f e, iI (t : Int)) ∧ ∀ k, k < t → pr k ≠ some p) (fun s => w - s.2.toNatClampNeg)
    (fun r => ((∃ k, k < w ∧ pr k = some p) ∧ r = .inr (iI 1, MW M σ f e)) ∨ ((¬ ∃ k, k < w ∧ pr k = some p) ∧ r = .inl (MW M σ f e))) ?_ n (MW M σ f e, iI 0) ⟨0, by omega, rfl, fun k hk => by omega⟩ (by show w - _ < n; omega)
  · obtain ⟨r, hr, hq⟩ := key
    unfold mX10_isTaken
    simp only [W, Option.bind_some, iL, hr]
    rcases hq with ⟨q, rfl⟩ | ⟨q, rfl⟩
    · exact Or.inl ⟨q, rfl⟩
    · exact Or.inr ⟨q, rfl⟩
  · rintro _ ⟨t, t1, rfl, ht⟩
    by_cases ct : t = w
    · subst ct
      refine Or.inr ⟨_, ?_, Or.inr ⟨fun ⟨k, k1, k2⟩ => ht k k1 k2, rfl⟩⟩
      simp (disch := omega) only [mX10_isTaken_L2, iI_le]
      rw [if_pos (by omega)]
    · have e1 := he t (by omega)
      have er : -1 ≤ enc (pr t) ∧ enc (pr t) < 8 := by
        cases hq : pr t with
        | none => simp only [enc]; omega
        | some a => have := hv t a (by omega) hq; simp only [enc]; omega
      simp (disch := omega) only [mX10_isTaken_L2, iI_le, W, Option.bind_some, e1, iI_eq, iL, iI_add]
      rw [if_neg (by omega)]
      by_cases cq : pr t = some p
      · rw [if_pos (by rw [cq]; rfl)]
        exact Or.inr ⟨_, rfl, Or.inl ⟨⟨t, by omega, cq⟩, rfl⟩⟩
      · have ne : ¬ enc (pr t) = (p : Int) := fun z => by
          cases hq : pr t with
          | none => rw [hq] at z; simp only [enc] at z; omega
          | some a => rw [hq] at z cq; simp only [enc] at z; exact cq (by rw [show a = p by omega])
        rw [if_neg ne]
        refine Or.inl ⟨_, rfl, ⟨t + 1, by omega, rfl, fun k hk => ?_⟩, ?_⟩
        · by_cases z : k = t
          · rw [z]; exact cq
          · exact ht k (by omega)
        · show w - (iI ((t : Int) + 1)).toNatClampNeg < w - (iI (t : Int)).toNatClampNeg
          rw [iI_clamp (by omega) (by omega), iI_clamp (by omega) (by omega)]
          omega
theorem lpR_skip {pr : Nat → Option Nat} {w : Nat} (h : pr w = none) (i j : Nat) (v : Int) : lpR A S pr w i j v ↔ lpR A S pr (w + 1) i j v := by
  unfold lpR
  constructor
  · rintro (q | ⟨b, a, q1, q2⟩)
    · exact Or.inl q
    · exact Or.inr ⟨b, a, by omega, q2⟩
  · rintro (q | ⟨b, a, q1, q2, q3⟩)
    · exact Or.inl q
    · refine Or.inr ⟨b, a, ?_, q2, q3⟩
      rcases Nat.lt_or_ge b w with z | z
      · exact z
      · rw [show b = w by omega, h] at q2; cases q2
theorem lpR_more {pr : Nat → Option Nat} {w a : Nat} (h : pr w = some a) (i j : Nat) (v : Int) : arcR (lpR A S pr w) (a + 1) (w + 1) (wend (wk A a) + 1) i j v ↔ lpR A S pr (w + 1) i j v := by
  unfold lpR arcR
  constructor
  · rintro ((q | ⟨b, c, q1, q2⟩) | ⟨q1, q2, q3⟩)
    · exact Or.inl q
    · exact Or.inr ⟨b, c, by omega, q2⟩
    · exact Or.inr ⟨w, a, by omega, h, q1, q2, q3⟩
  · rintro (q | ⟨b, c, q1, q2, q3, q4, q5⟩)
    · exact Or.inl (Or.inl q)
    · rcases Nat.lt_or_ge b w with z | z
      · exact Or.inl (Or.inr ⟨b, c, z, q2, q3, q4, q5⟩)
      · have zb : b = w := by omega
        subst zb
        rw [h] at q2
        cases q2
        exact Or.inr ⟨q3, q4, q5⟩
theorem m_links (hS : Msh M σ) (h : MH A f e) (hA : Wf A) {pr : Nat → Option Nat} {r : Sg → Nat → Int32 → Int32 → Int32 → Option Sg} (he : ∀ k : Nat, k < wn A → e 16 k = enc (pr k)) (hv : lkW A pr (wn A)) {X : Nat → Nat → Int} (hL : Lay A (conR A S (fn A)) X) (hn : 100000 ≤ n) : ∃ X', loopM (mX10_seek_L25 n r M) n (MX M σ f e X, iI 0) = some (MX M σ f e X') ∧ Lay A (lpR A S pr (wn A)) X' := by
  have W := mAll hS
  have h8 := hA.2.2.1.1
  have he2 : ∀ (X : Nat → Nat → Int) (k : Nat), k < wn A → setR e 15 (dX (e 15) X) 16 (k : Int) = enc (pr k) := fun X k hk => by
    unfold setR
    rw [if_neg (by omega)]
    exact he k hk
  have key := loop_inv (body := mX10_seek_L25 n r M) (fun s => ∃ (t : Nat) (X' : Nat → Nat → Int), t ≤ wn A ∧ s = (MX M σ f e X', iI (t : Int)) ∧ Lay A (lpR A S pr t) X') (fun s => wn A - s.2.toNatClampNeg)
    (fun s => ∃ X', s = MX M σ f e X' ∧ Lay A (lpR A S pr (wn A)) X') ?_ n (MX M σ f e X, iI 0) ⟨0, X, by omega, rfl, hL.iff (fun i j v _ => ⟨Or.inl, fun q => by rcases q with q | ⟨b, a, q, -⟩; exact q; omega⟩)⟩ (by show wn A - _ < n; omega)
  · obtain ⟨s, hs, X', rfl, q⟩ := key
    exact ⟨X', hs, q⟩
  · rintro _ ⟨t, X', t1, rfl, hq⟩
    by_cases ct : t = wn A
    · subst ct
      refine Or.inr ⟨_, ?_, X', rfl, hq⟩
      simp (disch := omega) only [mX10_seek_L25, W, Option.bind_some, (h.mx X').2.2.1.1, iI_le]
      rw [if_pos (by omega)]
    · have mu : wn A - (iI ((t : Int) + 1)).toNatClampNeg < wn A - (iI (t : Int)).toNatClampNeg := by
        rw [iI_clamp (by omega) (by omega), iI_clamp (by omega) (by omega)]
        omega
      cases hp : pr t with
      | none =>
        have ev : enc (pr t) = -1 := by rw [hp]; rfl
        simp (disch := omega) only [mX10_seek_L25, W, Option.bind_some, (h.mx X').2.2.1.1, iI_le, he2 X' t (by omega), ev, iL, iI_neg, mX10_seek_71, iI_add]
        rw [if_neg (by omega), if_pos trivial]
        exact Or.inl ⟨_, rfl, ⟨t + 1, X', by omega, rfl, hq.iff (fun i j v _ => lpR_skip hp i j v)⟩, mu⟩
      | some a =>
        obtain ⟨a1, a2, a3, a4⟩ := hv t a (by omega) hp
        have we := wend_R (hA.2.2.1.2 a a1)
        have ev : enc (pr t) = (a : Int) := by rw [hp]; rfl
        have xr := hq.R (show a < 9 by omega) (show t < 9 by omega)
        have L2 := hq.add (p := a) (q := t) (v := wend (wk A a) + 1) (Or.inl a1) (Or.inl (by omega)) a2 (by omega)
        rw [pn_w (show a < 8 by omega), pn_w (show t < 8 by omega)] at L2
        simp (disch := omega) only [mX10_seek_L25, W, Option.bind_some, (h.mx X').2.2.1.1, iI_le, he2 X' t (by omega), ev, iL, iI_neg, mX10_seek_71, iI_add, m_length hS (h.mx X') hA a1, m_least (n := n) (f := f) (e := e) hS (show a < 9 by omega) (show t < 9 by omega) (show -2000000000 ≤ X' a t ∧ X' a t ≤ 2000000000 by omega) (show -2000000000 ≤ wend (wk A a) + 1 ∧ wend (wk A a) + 1 ≤ 2000000000 by omega), iI_eq]
        rw [if_neg (by omega), if_neg (by omega)]
        exact Or.inl ⟨_, rfl, ⟨t + 1, _, by omega, rfl, L2.iff (fun i j v _ => lpR_more hp i j v)⟩, mu⟩
end X69
