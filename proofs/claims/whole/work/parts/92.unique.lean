/-! ===== one answer: what both sides say is one number, one state ===== -/
def EqX (A : AS) (X X' : Nat → Nat → Int) : Prop := ∀ i j, i < wn A + 1 → j < wn A + 1 → X i j = X' i j
section X92
variable {A : AS} {X X' : Nat → Nat → Int}
theorem verd_congr (h : EqX A X X') {a b : Nat} (ha : a < wn A) (hb : b < wn A) (l : Int) : verd X a b l = verd X' a b l := by
  unfold verd
  rw [h (b + 1) (a + 1) (by omega) (by omega), h (a + 1) (b + 1) (by omega) (by omega)]
theorem spW_congr (h : EqX A X X') {o u : Nat} (ho : o < wn A + 1) (hu : u < wn A + 1) (r : Int) : spW X (wn A) o u r = spW X' (wn A) o u r := by
  unfold spW
  rw [h o u ho hu, spn_congr (X := addX X o u r) (X' := addX X' o u r) (wn A) (fun i j hi hj => ?_)]
  unfold addX
  rw [h i j hi hj, h i u hi hu, h o j ho hj]
theorem wei_congr (h : EqX A X X') {a b : Nat} (ha : a < wn A) (hb : b < wn A) (k : Nat) : wei A X a b k = wei A X' a b k := by
  unfold wei
  rw [spW_congr h (by omega) (by omega), spW_congr h (by omega) (by omega)]
theorem gst_congr (h : EqX A X X') {a b : Nat} (ha : a < wn A) (hb : b < wn A) (k : Nat) (g : Int × Int × Int × Int) : gst A X a b k g = gst A X' a b k g := by
  unfold gst
  rw [wei_congr h ha hb, verd_congr h ha hb]
theorem gC_congr (h : EqX A X X') {a b : Nat} (ha : a < wn A) (hb : b < wn A) (g : Int × Int × Int × Int) : ∀ k, gC A X a b g k = gC A X' a b g k
  | 0 => rfl
  | k + 1 => by
    show gst A X a b k (gC A X a b g k) = gst A X' a b k (gC A X' a b g k)
    rw [gC_congr h ha hb g k, gst_congr h ha hb]
theorem gB_congr (h : EqX A X X') {a : Nat} (ha : a < wn A) (g : Int × Int × Int × Int) : ∀ b, b ≤ wn A → gB A X a g b = gB A X' a g b
  | 0, _ => rfl
  | b + 1, hb => by
    unfold gB
    rw [gB_congr h ha g b (by omega), gC_congr h ha (by omega)]
theorem gA_congr (h : EqX A X X') : ∀ a, a ≤ wn A → gA A X a = gA A X' a
  | 0, _ => rfl
  | a + 1, ha => by
    show gB A X a (gA A X a) (wn A) = gB A X' a (gA A X' a) (wn A)
    rw [gA_congr h a (by omega), gB_congr h (by omega) _ _ (Nat.le_refl _)]
theorem toX_congr (h : EqX A X X') : toX A X (wn A) = toX A X' (wn A) := by
  unfold toX
  have : (fun k => if k < wn A then tld (wk A k) (X 0 (k + 1)).toNat else wk A k) = fun k => if k < wn A then tld (wk A k) (X' 0 (k + 1)).toNat else wk A k := by
    funext k
    by_cases c : k < wn A
    · rw [if_pos c, if_pos c, h 0 (k + 1) (by omega) (by omega)]
    · rw [if_neg c, if_neg c]
  rw [this]
theorem Begins.unique {x : Int32} {w what r r' : Int} (h : Begins A x w what r) (h' : Begins A x w what r') : r = r' := by
  rcases h with ⟨a, b⟩ | ⟨a, c, b⟩ <;> rcases h' with ⟨a', b'⟩ | ⟨a', c', b'⟩
  · omega
  · rcases a with a | a
    · exact (a a').elim
    · exact (a c').elim
  · rcases a' with a' | a'
    · exact (a' a).elim
    · exact (a' c).elim
  · refine b.unique (fun X X' r r' he q q' => ?_) b'
    unfold FBeg at q q'
    unfold isW at c
    rw [q, q', he 0 (w.toNat + 1) (by omega) (by omega), he (w.toNat + 1) 0 (by omega) (by omega)]
theorem u_gap {x : Int32} {a b what no : Int} {r r' : Int} (h : Two ((0 ≤ what ∧ what ≤ 1) ∧ isW A a ∧ isW A b) no (Qry A x no (FGap a b what)) r) (h' : Two ((0 ≤ what ∧ what ≤ 1) ∧ isW A a ∧ isW A b) no (Qry A x no (FGap a b what)) r') : r = r' := by
  refine h.unique (fun hp b1 b2 => b1.unique (fun X X' r r' he q q' => ?_) b2) h'
  unfold isW at hp
  unfold FGap at q q'
  rw [q, q', he (a.toNat + 1) (b.toNat + 1) (by omega) (by omega), he (b.toNat + 1) (a.toNat + 1) (by omega) (by omega)]
theorem u_sure {x : Int32} {a b c no : Int} {r r' : Int} (h : Two (crs A a b c) no (Qry A x no (FSure A a b c)) r) (h' : Two (crs A a b c) no (Qry A x no (FSure A a b c)) r') : r = r' := by
  refine h.unique (fun hp b1 b2 => b1.unique (fun X X' r r' he q q' => ?_) b2) h'
  have e1 := hp.2.1.1
  have e2 := hp.2.2.1
  unfold isW at e1 e2
  unfold FSure at q q'
  rw [q, q', verd_congr he (by omega) (by omega)]
theorem u_ahead {x : Int32} {a b no : Int} {r r' : Int} (h : Two (isW A a ∧ isW A b) no (Qry A x no (FAhead a b)) r) (h' : Two (isW A a ∧ isW A b) no (Qry A x no (FAhead a b)) r') : r = r' := by
  refine h.unique (fun hp b1 b2 => b1.unique (fun X X' r r' he q q' => ?_) b2) h'
  unfold isW at hp
  unfold FAhead at q q'
  rw [q, q', verd_congr he (by omega) (by omega)]
theorem u_span {x : Int32} {no : Int} {r r' : Int} (h : Qry A x no (FSpan A) r) (h' : Qry A x no (FSpan A) r') : r = r' := by
  refine h.unique (fun X X' r r' he q q' => ?_) h'
  unfold FSpan at q q'
  rw [q, q', spn_congr _ he]
theorem u_look {x : Int32} {what no : Int} {P : Prop} {r r' : Int} (h : Two P no (Qry A x no (FLook A what)) r) (h' : Two P no (Qry A x no (FLook A what)) r') : r = r' := by
  refine h.unique (fun hp b1 b2 => b1.unique (fun X X' r r' he q q' => ?_) b2) h'
  unfold FLook at q q'
  rw [q, q', gA_congr he _ (Nat.le_refl _)]
theorem u_meets {x : Int32} {a b no : Int} {r r' : Int} (h : Two (isW A a ∧ isW A b ∧ a ≠ b) no (Qry A x no (FMeets A a b)) r) (h' : Two (isW A a ∧ isW A b ∧ a ≠ b) no (Qry A x no (FMeets A a b)) r') : r = r' := by
  refine h.unique (fun hp b1 b2 => b1.unique (fun X X' r r' he q q' => ?_) b2) h'
  unfold isW at hp
  unfold FMeets at q q'
  rw [q, q', he (a.toNat + 1) (b.toNat + 1) (by omega) (by omega), he (b.toNat + 1) (a.toNat + 1) (by omega) (by omega)]
theorem u_one {x : Int32} {a b no : Int} {r r' : Int} (h : Two (isW A a ∧ isW A b ∧ a ≠ b) no (Qry A x no (FOne A a b)) r) (h' : Two (isW A a ∧ isW A b ∧ a ≠ b) no (Qry A x no (FOne A a b)) r') : r = r' := by
  refine h.unique (fun hp b1 b2 => b1.unique (fun X X' r r' he q q' => ?_) b2) h'
  unfold isW at hp
  unfold FOne at q q'
  rw [q, q', he (a.toNat + 1) (b.toNat + 1) (by omega) (by omega), he (b.toNat + 1) (a.toNat + 1) (by omega) (by omega)]
theorem u_walkers {x : Int32} {no : Int} {P : Prop} {r r' : Int} (h : Two P no (Qry A x no (FWkr A x)) r) (h' : Two P no (Qry A x no (FWkr A x)) r') : r = r' := by
  refine h.unique (fun hp b1 b2 => b1.unique (fun X X' r r' he q q' => ?_) b2) h'
  obtain ⟨k, m, e⟩ := q
  obtain ⟨j, m', e'⟩ := q'
  have := m.unique m'
  subst this
  rw [e, e']
theorem u_orders {x : Int32} {i no : Int} {P : Prop} {r r' : Int} (h : Two P no (Qry A x no (FOrd A x i)) r) (h' : Two P no (Qry A x no (FOrd A x i)) r') : r = r' := by
  refine h.unique (fun hp b1 b2 => b1.unique (fun X X' r r' he q q' => ?_) b2) h'
  unfold FOrd at q q'
  rw [q, q']
theorem Bars.unique {x : Int32} {r r' : Int} (h : Bars A x r) (h' : Bars A x r') : r = r' := by
  rcases h with ⟨a, b⟩ | ⟨a, m, m1, m2, m3, m4, m5⟩ <;> rcases h' with ⟨a', b'⟩ | ⟨a', m', n1, n2, n3, n4, n5⟩
  · omega
  · rcases a with a | a
    · exact (a a').elim
    · exact (n4 (can_mono (by omega) a)).elim
  · rcases a' with a' | a'
    · exact (a' a).elim
    · exact (m4 (can_mono (by omega) a')).elim
  · have : m = m' := by
      rcases Nat.lt_trichotomy m m' with c | c | c
      · exact (m4 (can_mono (by omega) n3)).elim
      · exact c
      · exact (n4 (can_mono (by omega) m3)).elim
    omega
theorem Judge.unique {x : Int32} {r r' : Int} (h : Judge A x r) (h' : Judge A x r') : r = r' := by
  rcases h with ⟨m, m1, m2, m3, m4, m5⟩ | ⟨a, b⟩ <;> rcases h' with ⟨m', n1, n2, n3, n4, n5⟩ | ⟨a', b'⟩
  · have : m = m' := by
      rcases Nat.lt_trichotomy m m' with c | c | c
      · exact (m3 (n4 m c m2)).elim
      · exact c
      · exact (n3 (m4 m' c n2)).elim
    omega
  · exact (m3 (a' m m1 m2)).elim
  · exact (n3 (a m' n1 n2)).elim
  · omega
theorem Feed.unique {a b c d e : Int32} {A1 A2 : AS} {r r' : Int} (h : Feed A a b c d e A1 r) (h' : Feed A a b c d e A2 r') : A1 = A2 ∧ r = r' := by
  rcases h with ⟨p, q, s⟩ | ⟨p, q, s⟩ <;> rcases h' with ⟨p', q', s'⟩ | ⟨p', q', s'⟩
  · exact ⟨q.trans q'.symm, s.trans s'.symm⟩
  · omega
  · omega
  · exact ⟨q.trans q'.symm, s.trans s'.symm⟩
theorem EndQ.unique {z : Int} {A1 A2 : AS} {r r' : Int} (h : EndQ A z A1 r) (h' : EndQ A z A2 r') : A1 = A2 ∧ r = r' := by
  rcases h with ⟨p, q, s⟩ | ⟨p, q, s⟩ <;> rcases h' with ⟨p', q', s'⟩ | ⟨p', q', s'⟩
  · exact ⟨q.trans q'.symm, s.trans s'.symm⟩
  · exact (p' p).elim
  · exact (p p').elim
  · exact ⟨q.trans q'.symm, s.trans s'.symm⟩
theorem Start.unique {w z : Int} {A1 A2 : AS} {r r' : Int} (h : Start A w z A1 r) (h' : Start A w z A2 r') : A1 = A2 ∧ r = r' := by
  rcases h with ⟨p, q, s⟩ | ⟨p, q, s⟩ <;> rcases h' with ⟨p', q', s'⟩ | ⟨p', q', s'⟩
  · exact ⟨q.trans q'.symm, s.trans s'.symm⟩
  · exact (p' p).elim
  · exact (p p').elim
  · exact ⟨q.trans q'.symm, s.trans s'.symm⟩
theorem Snow.unique {z : Int} {A1 A2 : AS} {r r' : Int} (h : Snow A z A1 r) (h' : Snow A z A2 r') : A1 = A2 ∧ r = r' := by
  rcases h with ⟨p, p2, q, s⟩ | ⟨p, q, s⟩ <;> rcases h' with ⟨p', p2', q', s'⟩ | ⟨p', q', s'⟩
  · exact ⟨q.trans q'.symm, s.trans s'.symm⟩
  · exact (p' ⟨p, p2⟩).elim
  · exact (p ⟨p', p2'⟩).elim
  · exact ⟨q.trans q'.symm, s.trans s'.symm⟩
theorem Photo.unique {who w c : Int} {A1 A2 : AS} {r r' : Int} (h : Photo A who w c A1 r) (h' : Photo A who w c A2 r') : A1 = A2 ∧ r = r' := by
  rcases h with ⟨p, q, s⟩ | ⟨p, q, s⟩ <;> rcases h' with ⟨p', q', s'⟩ | ⟨p', q', s'⟩
  · have := q.trans q'.symm
    subst this
    exact ⟨rfl, s.trans s'.symm⟩
  · exact (p' p).elim
  · exact (p p').elim
  · exact ⟨q.trans q'.symm, s.trans s'.symm⟩
theorem WalkQ.unique {p b : Int} {A1 A2 : AS} {r r' : Int} (h : WalkQ A p b A1 r) (h' : WalkQ A p b A2 r') : A1 = A2 ∧ r = r' := by
  rcases h with ⟨p, L, u, q, s⟩ | ⟨p, q, s⟩ <;> rcases h' with ⟨p', L', u', q', s'⟩ | ⟨p', q', s'⟩
  · have := (u.unique u').1
    subst this
    exact ⟨q.trans q'.symm, s.trans s'.symm⟩
  · exact (p' p).elim
  · exact (p p').elim
  · exact ⟨q.trans q'.symm, s.trans s'.symm⟩
theorem AddQ.unique {o : Option Fc} {A1 A2 : AS} {r r' : Int} (h : AddQ A o A1 r) (h' : AddQ A o A2 r') : A1 = A2 ∧ r = r' := by
  cases o with
  | none => exact ⟨h.1.trans h'.1.symm, h.2.trans h'.2.symm⟩
  | some q => exact ⟨h.1.trans h'.1.symm, h.2.trans h'.2.symm⟩
theorem Settle.unique {x : Int32} {A1 A2 : AS} {r r' : Int} (h : Settle A x A1 r) (h' : Settle A x A2 r') : A1 = A2 ∧ r = r' := by
  rcases h with ⟨p, X, u, q, s⟩ | ⟨p, q, s⟩ <;> rcases h' with ⟨p', X', u', q', s'⟩ | ⟨p', q', s'⟩
  · have e : EqX A X X' := fun i j hi hj => u.unique u' hi hj
    exact ⟨q.trans ((toX_congr e).trans q'.symm), s.trans s'.symm⟩
  · rcases p' with p' | p'
    · exact (p' p).elim
    · exact (p' ⟨X, u.1⟩).elim
  · rcases p with p | p
    · exact (p p').elim
    · exact (p ⟨X', u'.1⟩).elim
  · exact ⟨q.trans q'.symm, s.trans s'.symm⟩
end X92
