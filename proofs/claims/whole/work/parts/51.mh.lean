/-! ===== the reference holds A; its reads ===== -/
/-- a fact as the reference keeps it: who, kind, one, other, first, second -/
def FcM (A : AS) (q : Fc) (who kind one oth fs sn : Int) : Prop := q.1 = who ∧ ∃ a : Nat, a < wn A ∧ one = a ∧ q.2.1 = a + 1 ∧ -6000 ≤ fs ∧ fs ≤ 5500 ∧
  ((kind = 0 ∧ (∃ b : Nat, b < wn A ∧ b ≠ a ∧ oth = b ∧ q.2.2.1 = b + 1 ∧ 0 ≤ fs ∧ fs < 256 ∧ q.2.2.2.1 = mad (wk A b) fs - mad (wk A a) fs + 1) ∧ q.2.2.2.2 = 1000000) ∨
   (kind = 1 ∧ q.2.2.1 = 0 ∧ q.2.2.2.1 = fs + 1 ∧ q.2.2.2.2 = 1000000) ∨ (kind = 2 ∧ q.2.2.1 = 0 ∧ q.2.2.2.1 = -1000000 ∧ q.2.2.2.2 = fs) ∨ (kind = 3 ∧ q.2.2.1 = 0 ∧ q.2.2.2.1 = fs ∧ q.2.2.2.2 = sn ∧ 0 ≤ sn ∧ sn ≤ 2000) ∨
   (kind = 4 ∧ (∃ b : Nat, b < wn A ∧ b ≠ a ∧ oth = b ∧ q.2.2.1 = b + 1) ∧ q.2.2.2.1 = fs ∧ q.2.2.2.2 = 1000000))
def MHw (e : Nat → Int → Int) (k : Nat) (w : Wk) : Prop := e 5 k = wlast w ∧ e 6 k = wpace w ∧ e 7 k = wboot w ∧ e 8 k = wtold w ∧ ∀ i : Nat, i ≤ wlast w → e 4 (61 * (k : Int) + i) = wcell w i
def MH (A : AS) (f : Nat → Int) (e : Nat → Int → Int) : Prop :=
  (f 1 = wide A ∧ f 2 = deep A ∧ f 3 = day A ∧ ∀ k : Nat, wn A ≤ k → e 8 k = 0) ∧ (f 5 = tn A ∧ ∀ k : Nat, k < tn A → e 1 k = tb A k) ∧ (f 20 = wn A ∧ ∀ w : Nat, w < wn A → MHw e w (wk A w)) ∧
  (f 27 = fn A ∧ ∀ k : Nat, k < fn A → FcM A (fc A k) (e 9 k) (e 10 k) (e 11 k) (e 12 k) (e 13 k) (e 14 k)) ∧ (f 36 = sn A ∧ ∀ k : Nat, k < sn A → e 17 k = sw A k)
/-- only what is of no meaning between calls differs -/
def Sc (f : Nat → Int) (e : Nat → Int → Int) (f' : Nat → Int) (e' : Nat → Int → Int) : Prop := (∀ k, k = 1 ∨ k = 2 ∨ k = 3 ∨ k = 5 ∨ k = 20 ∨ k = 27 ∨ k = 36 → f' k = f k) ∧ (∀ r, r = 1 ∨ (4 ≤ r ∧ r ≤ 14) ∨ r = 17 → e' r = e r)
theorem Sc.refl (f : Nat → Int) (e : Nat → Int → Int) : Sc f e f e := ⟨fun _ _ => rfl, fun _ _ => rfl⟩
theorem Sc.trans {f f' f'' : Nat → Int} {e e' e'' : Nat → Int → Int} (h : Sc f e f' e') (h' : Sc f' e' f'' e'') : Sc f e f'' e'' := ⟨fun k hk => (h'.1 k hk).trans (h.1 k hk), fun r hr => (h'.2 r hr).trans (h.2 r hr)⟩
theorem Sc.f {f : Nat → Int} {e : Nat → Int → Int} (k : Nat) (v : Int) (hk : ¬ (k = 1 ∨ k = 2 ∨ k = 3 ∨ k = 5 ∨ k = 20 ∨ k = 27 ∨ k = 36)) : Sc f e (updZ f k v) e := ⟨fun j hj => by unfold updZ; rw [if_neg (by omega)], fun _ _ => rfl⟩
theorem Sc.e {f : Nat → Int} {e : Nat → Int → Int} (r : Nat) (z v : Int) (hr : ¬ (r = 1 ∨ (4 ≤ r ∧ r ≤ 14) ∨ r = 17)) : Sc f e f (ups e r z v) := ⟨fun _ _ => rfl, fun j hj => by unfold ups; rw [if_neg (by omega)]⟩
theorem MHw.same {e e' : Nat → Int → Int} {k : Nat} {w : Wk} (h : MHw e k w) (h4 : e' 4 = e 4) (h5 : e' 5 = e 5) (h6 : e' 6 = e 6) (h7 : e' 7 = e 7) (h8 : e' 8 = e 8) : MHw e' k w := by
  unfold MHw at h ⊢
  rw [h4, h5, h6, h7, h8]
  exact h
theorem MH.sc {A : AS} {f f' : Nat → Int} {e e' : Nat → Int → Int} (h : MH A f e) (s : Sc f e f' e') : MH A f' e' := by
  obtain ⟨⟨a1, a2, a3, a4⟩, ⟨b1, b2⟩, ⟨c1, c2⟩, ⟨d1, d2⟩, ⟨g1, g2⟩⟩ := h
  obtain ⟨s1, s2⟩ := s
  refine ⟨⟨(s1 1 (by omega)).trans a1, (s1 2 (by omega)).trans a2, (s1 3 (by omega)).trans a3, fun k hk => by rw [s2 8 (by omega)]; exact a4 k hk⟩, ⟨(s1 5 (by omega)).trans b1, fun k hk => by rw [s2 1 (by omega)]; exact b2 k hk⟩, ⟨(s1 20 (by omega)).trans c1, fun w hw => (c2 w hw).same (s2 4 (by omega)) (s2 5 (by omega)) (s2 6 (by omega)) (s2 7 (by omega)) (s2 8 (by omega))⟩, ⟨(s1 27 (by omega)).trans d1, fun k hk => ?_⟩, ⟨(s1 36 (by omega)).trans g1, fun k hk => by rw [s2 17 (by omega)]; exact g2 k hk⟩⟩
  rw [s2 9 (by omega), s2 10 (by omega), s2 11 (by omega), s2 12 (by omega), s2 13 (by omega), s2 14 (by omega)]
  exact d2 k hk
section X51
variable {M n : Nat} {σ : Sg} {A : AS} {f : Nat → Int} {e : Nat → Int → Int}
theorem m_isWalk (hS : Msh M σ) (h : MH A f e) (hA : Wf A) {z : Int} (hz : RI z) : mX10_isWalk n (MW M σ f e) M (iI z) = some (bI (0 ≤ z ∧ z < wn A), MW M σ f e) := by
  have W := mAll hS
  have h8 := hA.2.2.1.1
  have hz := id hz
  unfold RI at hz
  unfold mX10_isWalk
  simp (disch := omega) only [W, Option.bind_some, iL, iI_sub, h.2.2.1.1, m_in, bI_01, if_true]
  rw [bI_iff (show (0 ≤ z ∧ z ≤ (wn A : Int) - 1) ↔ (0 ≤ z ∧ z < wn A) by omega)]
theorem m_cellAt (hS : Msh M σ) (h : MH A f e) (hA : Wf A) {w i : Nat} (hw : w < wn A) (hi : i ≤ wlast (wk A w)) : mX10_cellAt n (MW M σ f e) M (iI w) (iI i) = some (iI (wcell (wk A w) i), MW M σ f e) := by
  have W := mAll hS
  have h8 := hA.2.2.1.1
  have h60 := (hA.2.2.1.2 w hw).2.2.2.1
  unfold mX10_cellAt
  simp (disch := omega) only [W, Option.bind_some, iL, iI_mul, iI_add]
  rw [(h.2.2.1.2 w hw).2.2.2.2 i hi]
theorem m_hasPrint (hS : Msh M σ) (h : MH A f e) (hA : Wf A) {w i : Nat} (hw : w < wn A) (hi : i ≤ wlast (wk A w)) : mX10_hasPrint n (MW M σ f e) M (iI w) (iI i) = some (bI (prt (wk A w) i), MW M σ f e) := by
  have W := mAll hS
  have h60 := (hA.2.2.1.2 w hw).2.2.2.1
  have k1 := cell256 hA (hA.2.2.1.2 w hw) hi
  unfold mX10_hasPrint
  simp (disch := omega) only [W, Option.bind_some, iL, iI_eq]
  by_cases c : i = 0
  · rw [if_pos (by omega), bI_t (Or.inl c)]; rfl
  · rw [if_neg (by omega), m_cellAt hS h hA hw hi]
    have e1 : iI (i : Int) - iI 1 = iI ((i - 1 : Nat) : Int) := by rw [iI_sub, show (i : Int) - 1 = ((i - 1 : Nat) : Int) by omega]
    have k2 := cell256 hA (hA.2.2.1.2 w hw) (show i - 1 ≤ wlast (wk A w) by omega)
    simp (disch := omega) only [Option.bind_some, e1, m_cellAt hS h hA hw (show i - 1 ≤ wlast (wk A w) by omega), iI_eq]
    by_cases c2 : wcell (wk A w) i = wcell (wk A w) (i - 1)
    · rw [if_pos (by omega), bI_f (by rintro (q | q); exact c q; exact q c2)]
    · rw [if_neg (by omega), bI_t (Or.inr c2)]; rfl
/-- the latest moment below t with a print in a cell -/
def latU (c : Nat → Nat) (cell : Nat) : Nat → Int
  | 0 => -1
  | t + 1 => lat c cell t
theorem latU_step (w : Wk) (c t : Nat) : latU (wcell w) c (t + 1) = if wcell w t = c ∧ prt w t then (t : Int) else latU (wcell w) c t := by
  show lat (wcell w) c t = _
  cases t with
  | zero =>
    show (if wcell w 0 = c then (0 : Int) else -1) = _
    by_cases h : wcell w 0 = c
    · rw [if_pos h, if_pos ⟨h, Or.inl rfl⟩]; rfl
    · rw [if_neg h, if_neg (fun q => h q.1)]; rfl
  | succ t =>
    show (if wcell w (t + 1) = c ∧ ¬ wcell w (t + 1) = wcell w t then ((t + 1 : Nat) : Int) else lat (wcell w) c t) = _
    by_cases h : wcell w (t + 1) = c ∧ ¬ wcell w (t + 1) = wcell w t
    · rw [if_pos h, if_pos ⟨h.1, Or.inr h.2⟩]
    · rw [if_neg h, if_neg]
      · rfl
      · rintro ⟨q1, q2 | q2⟩
        · omega
        · exact h ⟨q1, q2⟩
theorem m_latestIn (hS : Msh M σ) (h : MH A f e) (hA : Wf A) {w c : Nat} (hw : w < wn A) (hc : c < 256) (hn : 100000 ≤ n) : mX10_latestIn n (MW M σ f e) M (iI w) (iI c) = some (iI (lIn (wk A w) c), MW M σ f e) := by
  have W := mAll hS
  have h8 := hA.2.2.1.1
  have h60 := (hA.2.2.1.2 w hw).2.2.2.1
  have L : loopM (mX10_latestIn_L5 n M (iI w) (iI c)) n (MW M σ f e, iI (-1), iI 0) = some (MW M σ f e, iI (lat (wcell (wk A w)) c (wlast (wk A w)))) := by
    have e0 : (MW M σ f e, iI (-1), iI 0) = (fun t : Nat => (MW M σ f e, iI (latU (wcell (wk A w)) c t), iI (t : Int))) 0 := rfl
    rw [e0]
    refine loop_run (fun t : Nat => (MW M σ f e, iI (latU (wcell (wk A w)) c t), iI (t : Int))) (wlast (wk A w) + 1) 0 (fun t _ ht => ?_) ?_ n (by omega)
    · have k1 := cell256 hA (hA.2.2.1.2 w hw) (show t ≤ wlast (wk A w) by omega)
      simp (disch := omega) only [mX10_latestIn_L5, W, Option.bind_some, (h.2.2.1.2 w hw).1, iI_lt, m_cellAt hS h hA hw (show t ≤ wlast (wk A w) by omega), m_hasPrint hS h hA hw (show t ≤ wlast (wk A w) by omega), iI_eq, iL, bI_0, mX10_latestIn_42, mX10_latestIn_43, iI_add]
      rw [if_neg (by omega), latU_step]
      by_cases c1 : wcell (wk A w) t = c
      · rw [if_pos (by omega)]
        by_cases c2 : prt (wk A w) t
        · rw [if_neg (fun q => q c2), if_pos ⟨c1, c2⟩]; rfl
        · rw [if_pos c2, if_neg (fun q => c2 q.2)]; rfl
      · rw [if_neg (by omega), if_neg (fun q => c1 q.1)]; rfl
    · simp (disch := omega) only [Nat.zero_add, mX10_latestIn_L5, W, Option.bind_some, (h.2.2.1.2 w hw).1, iI_lt]
      rw [if_pos (by omega)]; rfl
  unfold mX10_latestIn
  simp only [W, Option.bind_some, iL, iI_neg, L]
  rw [lIn_nat _ hc]
theorem m_made (hS : Msh M σ) (h : MH A f e) (hA : Wf A) {w c : Nat} (hw : w < wn A) (hc : c < 256) (hn : 100000 ≤ n) : mX10_made n (MW M σ f e) M (iI w) (iI c) = some (iI (mad (wk A w) c), MW M σ f e) := by
  have W := mAll hS
  have h8 := hA.2.2.1.1
  unfold mX10_made
  simp (disch := omega) only [W, Option.bind_some, (h.2.2.1.2 w hw).2.1, m_latestIn hS h hA hw hc hn, iI_mul]
  rfl
theorem m_isCell (hS : Msh M σ) (h : MH A f e) (hA : Wf A) {a b : Int} (ha : RI a) (hb : RI b) : mX10_isCell n (MW M σ f e) M (iI a) (iI b) = some (bI (0 ≤ a ∧ a < wide A ∧ 0 ≤ b ∧ b < deep A), MW M σ f e) := by
  have W := mAll hS
  have h1 := hA.1
  unfold RI at ha hb
  unfold mX10_isCell
  simp (disch := omega) only [W, Option.bind_some, iL, iI_sub, h.1.1, h.1.2.1, m_in, bI_0]
  by_cases c1 : 0 ≤ a ∧ a ≤ (wide A : Int) - 1
  · rw [if_neg (fun q => q c1)]
    by_cases c2 : 0 ≤ b ∧ b ≤ (deep A : Int) - 1
    · rw [if_neg (fun q => q c2), bI_t (by omega)]
    · rw [if_pos c2, bI_f (by omega)]
  · rw [if_pos c1, bI_f (by omega)]
theorem m_where (hS : Msh M σ) (h : MH A f e) (hA : Wf A) {z i : Int} (hz : RI z) (hi : RI i) : mX10_where n (MW M σ f e) M (iI z) (iI i) = some (iI (if 0 ≤ z ∧ z < wn A then cOf (wk A z.toNat) i else -1), MW M σ f e) := by
  have W := mAll hS
  have h8 := hA.2.2.1.1
  unfold mX10_where
  simp only [W, Option.bind_some, m_isWalk hS h hA hz, iL, bI_0]
  by_cases c0 : 0 ≤ z ∧ z < wn A
  · obtain ⟨w, w1, w2, w3⟩ := isW.nat c0
    have h60 := (hA.2.2.1.2 w w1).2.2.2.1
    unfold RI at hi hz
    rw [if_neg (fun q => q c0), if_pos c0, w3]
    subst w2
    simp (disch := omega) only [W, Option.bind_some, (h.2.2.1.2 w w1).1, m_in, bI_0]
    unfold cOf
    by_cases c1 : 0 ≤ i ∧ i ≤ (wlast (wk A w) : Int)
    · rw [if_neg (fun q => q c1), if_pos c1]
      have e1 : i = ((i.toNat : Nat) : Int) := by omega
      rw [e1, m_cellAt hS h hA w1 (show i.toNat ≤ wlast (wk A w) by omega), show ((i.toNat : Int)).toNat = i.toNat by omega]
      rfl
    · rw [if_pos c1, if_neg c1]; rfl
  · rw [if_pos c0, if_neg c0]; rfl
theorem m_latest (hS : Msh M σ) (h : MH A f e) (hA : Wf A) {z x y : Int} (hz : RI z) (hx : RI x) (hy : RI y) (hn : 100000 ≤ n) : mX10_latest n (MW M σ f e) M (iI z) (iI x) (iI y) = some (iI (if 0 ≤ z ∧ z < wn A then lIn (wk A z.toNat) (cAt A x y) else -1), MW M σ f e) := by
  have W := mAll hS
  have h1 := hA.1
  unfold mX10_latest
  simp only [W, Option.bind_some, m_isWalk hS h hA hz, m_isCell hS h hA hx hy, iL, bI_0]
  by_cases c0 : 0 ≤ z ∧ z < wn A
  · obtain ⟨w, w1, w2, w3⟩ := isW.nat c0
    rw [if_neg (fun q => q c0), if_pos c0, w3]
    unfold cAt
    by_cases c1 : 0 ≤ x ∧ x < wide A ∧ 0 ≤ y ∧ y < deep A
    · rw [if_neg (fun q => q c1), if_pos c1]
      have e1 : 16 * y + x = (((16 * y + x).toNat : Nat) : Int) := by omega
      simp only [iI_mul, iI_add, w2]
      rw [e1, m_latestIn hS h hA w1 (show (16 * y + x).toNat < 256 by omega) hn]
      rfl
    · rw [if_pos c1, if_neg c1, lIn_m1]; rfl
  · rw [if_pos c0, if_neg c0]; rfl
theorem m_hasLatest (hS : Msh M σ) (h : MH A f e) (hA : Wf A) {z x y : Int} (hz : RI z) (hx : RI x) (hy : RI y) (hn : 100000 ≤ n) : mX10_hasLatest n (MW M σ f e) M (iI z) (iI x) (iI y) = some (bI (pIn A z (cAt A x y)), MW M σ f e) := by
  have W := mAll hS
  unfold mX10_hasLatest
  simp only [W, Option.bind_some, m_latest hS h hA hz hx hy hn, iL, iI_neg]
  by_cases c0 : 0 ≤ z ∧ z < wn A
  · have h1 := lIn_R (wk A z.toNat) (cAt A x y)
    have h60 := (hA.2.2.1.2 z.toNat (by omega)).2.2.2.1
    rw [if_pos c0]
    by_cases c1 : lIn (wk A z.toNat) (cAt A x y) = -1
    · rw [if_pos (by rw [c1]), bI_f (fun q => q.2 c1)]
    · rw [if_neg (fun q => c1 ((iI_eq (by omega) (by omega)).mp q)), bI_t ⟨c0, c1⟩]
  · rw [if_neg c0, if_pos rfl, bI_f (fun q => c0 q.1)]
end X51
