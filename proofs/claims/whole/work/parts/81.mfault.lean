/-! ===== the reference: read and fault ===== -/
section X81
variable {M n : Nat} {σ : Sg} {A : AS} {f : Nat → Int} {e : Nat → Int → Int}
def Same (f f' : Nat → Int) : Prop := ∀ k, k ≠ 6 → k ≠ 7 → f' k = f k
theorem Same.mh {f' : Nat → Int} (h : MH A f e) (s : Same f f') : MH A f' e := h.sc ⟨fun k hk => s k (by omega) (by omega), fun _ _ => rfl⟩
theorem m_sign_ok (hS : Msh M σ) (h : MH A f e) (hA : Wf A) {i c : Nat} (h6 : f 6 = i) (h7 : f 7 = -1) (hi : i ≤ tn A) (hc : 1 ≤ c ∧ c ≤ 255) (hn : 100000 ≤ n) : ∃ f', mX10_sign n (MW M σ f e) M (iI (c : Int)) = some (MW M σ f' e) ∧ Same f f' ∧ ((cb A (sk A i) = c ∧ f' 7 = -1 ∧ f' 6 = (sk A i : Int) + 1) ∨ (cb A (sk A i) ≠ c ∧ f' 7 = sk A i)) := by
  have W := mAll hS
  have t160 := hA.2.1.1
  have sl := sk_le hi
  have rj := rb_or hA (sk A i)
  have u6 : updZ f 6 (sk A i : Nat) 6 = (sk A i : Nat) := updZ_same _ _ _
  have u7 : updZ f 6 (sk A i : Nat) 7 = -1 := by rw [updZ_ne _ _ (by omega)]; exact h7
  unfold mX10_sign mX10_sign_20
  simp only [W, Option.bind_some, h7, m_look1 hS h hA h6 (show i ≤ 200 by omega) hn]
  rw [if_pos (show iI (-1) = (-1 : Int32) from rfl)]
  by_cases c1 : cb A (sk A i) = c
  · rw [if_pos (by rw [show rb A (sk A i) = (c : Int) by omega])]
    simp only [W, Option.bind_some, u6, iI_s1]
    exact ⟨_, rfl, fun k a b => by rw [updZ_ne _ _ a, updZ_ne _ _ a], Or.inl ⟨c1, by rw [updZ_ne _ _ (by omega)]; exact u7, updZ_same _ _ _⟩⟩
  · rw [if_neg (by rw [iI_eq (by omega) (by omega)]; omega), m_bad hS u7 u6 (RI.sm (by omega) (by omega)), if_pos rfl]
    simp only [W, Option.bind_some, iI_s1]
    exact ⟨_, rfl, fun k a b => by rw [updZ_ne _ _ a, updZ_ne _ _ b, updZ_ne _ _ a], Or.inr ⟨c1, by rw [updZ_ne _ _ (by omega), updZ_same]⟩⟩
theorem m_sign_er (hS : Msh M σ) {er : Nat} (c : Int32) (h7 : f 7 = er) (he : er ≤ 1000) : ∃ f', mX10_sign n (MW M σ f e) M c = some (MW M σ f' e) ∧ Same f f' ∧ f' 7 = er := by
  have W := mAll hS
  unfold mX10_sign mX10_sign_20
  simp only [W, Option.bind_some, h7, iI_s1]
  rw [if_neg (by rw [iI_m1, iI_eq (by omega) (by omega)]; omega)]
  exact ⟨_, rfl, fun k a b => updZ_ne _ _ a, by rw [updZ_ne _ _ (by omega)]; exact h7⟩
theorem m_num75 (hS : Msh M σ) (h : MH A f e) (hA : Wf A) {l v bd : Nat} (h6 : f 6 = ((l + 1 : Nat) : Int)) (h7 : f 7 = -1) (hl : l ≤ 200) (hv : v ≤ 1000) (hb : 1 ≤ bd ∧ bd ≤ 1000) : ∃ f' z, mX10_number_75 n (MW M σ f e) M (iI ((bd : Int) - 1)) (iI (v : Int)) = some (iI z, MW M σ f' e) ∧ Same f f' ∧ (((numE A bd v l).1 = true ∧ f' 7 = -1 ∧ f' 6 = (numE A bd v l).2.1 ∧ z = (numE A bd v l).2.2) ∨ ((numE A bd v l).1 = false ∧ f' 7 = (numE A bd v l).2.1)) := by
  have W := mAll hS
  unfold mX10_number_75 numE
  simp (disch := omega) only [iI_le, m_here hS h hA h6 (show l + 1 ≤ 1000 by omega), Option.bind_some, m_isDigit hA, iL, bI_0, W, h6, iI_sub]
  by_cases c : v < bd
  · rw [if_pos (by omega), if_pos c]
    by_cases c1 : isDg (cb A (l + 1))
    · rw [if_neg (fun q => q c1), if_pos c1, m_bad hS h7 h6 (RI.sm (by omega) (by omega)), if_pos rfl]
      exact ⟨_, v, rfl, fun k a b => updZ_ne _ _ b, Or.inr ⟨rfl, updZ_same _ _ _⟩⟩
    · rw [if_pos c1, if_neg c1]
      exact ⟨f, v, rfl, fun k a b => rfl, Or.inl ⟨rfl, h7, h6, rfl⟩⟩
  · rw [if_neg (by omega), if_neg c]
    have u6 : updZ f 6 (((l + 1 : Nat) : Int) - 1) 6 = (l : Int) := by rw [updZ_same]; omega
    have u7 : updZ f 6 (((l + 1 : Nat) : Int) - 1) 7 = -1 := by rw [updZ_ne _ _ (by omega)]; exact h7
    rw [m_bad hS u7 u6 (RI.sm (by omega) (by omega)), if_pos rfl]
    exact ⟨_, 0, rfl, fun k a b => by rw [updZ_ne _ _ b, updZ_ne _ _ a], Or.inr ⟨rfl, updZ_same _ _ _⟩⟩
theorem m_number_ok (hS : Msh M σ) (h : MH A f e) (hA : Wf A) {i bd : Nat} (h6 : f 6 = i) (h7 : f 7 = -1) (hi : i ≤ tn A) (hb : 1 ≤ bd ∧ bd ≤ 1000) (hn : 100000 ≤ n) : ∃ f' z, mX10_number n (MW M σ f e) M (iI ((bd : Int) - 1)) = some (iI z, MW M σ f' e) ∧ Same f f' ∧ (((numF A (sk A i) bd).1 = true ∧ f' 7 = -1 ∧ f' 6 = (numF A (sk A i) bd).2.1 ∧ z = (numF A (sk A i) bd).2.2) ∨ ((numF A (sk A i) bd).1 = false ∧ f' 7 = (numF A (sk A i) bd).2.1)) := by
  have W := mAll hS
  have t160 := hA.2.1.1
  have sl := sk_le hi
  have lk := m_look1 (n := n) hS h hA h6 (show i ≤ 200 by omega) hn
  generalize hj : sk A i = j at sl lk
  have rj := rb_or hA j
  have rj1 := rb_or hA (j + 1)
  have H1 : MH A (updZ f 6 (j : Int)) e := h.sc (Sc.f 6 _ (by omega))
  have u6 : updZ f 6 (j : Int) 6 = (j : Int) := updZ_same _ _ _
  have u7 : updZ f 6 (j : Int) 7 = -1 := by rw [updZ_ne _ _ (by omega)]; exact h7
  unfold mX10_number numF
  simp only [W, Option.bind_some, h7, lk, m_isDigit hA, iL, bI_0, iI_neg]
  rw [if_pos trivial]
  by_cases c : isDg (cb A j)
  · rw [if_neg (fun q => q c), if_pos c]
    have jl := cb_in (A := A) (i := j) (by omega)
    have H2 : MH A (updZ (updZ f 6 (j : Int)) 6 ((j : Int) + 1)) e := H1.sc (Sc.f 6 _ (by omega))
    have v6 : updZ (updZ f 6 (j : Int)) 6 ((j : Int) + 1) 6 = ((j + 1 : Nat) : Int) := by rw [updZ_same]; rfl
    have v7 : updZ (updZ f 6 (j : Int)) 6 ((j : Int) + 1) 7 = -1 := by rw [updZ_ne _ _ (by omega)]; exact u7
    have e1 : iI (rb A j) - iI 48 = iI ((cb A j - 48 : Nat) : Int) := by rw [iI_sub, show rb A j - 48 = ((cb A j - 48 : Nat) : Int) by omega]
    simp only [m_here hS H1 hA u6 (show j ≤ 1000 by omega), Option.bind_some, nm, e1, W, u6, iI_add, m_here hS H2 hA v6 (show j + 1 ≤ 1000 by omega), m_isDigit hA, bI_0]
    by_cases c1 : isDg (cb A (j + 1))
    · rw [if_neg (fun q => q c1), if_pos c1]
      have e2 : iI 10 * iI ((cb A j - 48 : Nat) : Int) + iI (rb A (j + 1)) - iI 48 = iI ((10 * (cb A j - 48) + (cb A (j + 1) - 48) : Nat) : Int) := by
        rw [iI_mul, iI_add, iI_sub, show (10 : Int) * ((cb A j - 48 : Nat) : Int) + rb A (j + 1) - 48 = ((10 * (cb A j - 48) + (cb A (j + 1) - 48) : Nat) : Int) by omega]
      have H3 : MH A (updZ (updZ (updZ f 6 (j : Int)) 6 ((j : Int) + 1)) 6 (((j + 1 : Nat) : Int) + 1)) e := H2.sc (Sc.f 6 _ (by omega))
      simp only [Option.bind_some, e2, W, v6, iI_add, nm, m_here hS H2 hA v6 (show j + 1 ≤ 1000 by omega)]
      obtain ⟨f', z, k1, k2, k3⟩ := m_num75 (n := n) (l := j + 1) (v := 10 * (cb A j - 48) + (cb A (j + 1) - 48)) hS H3 hA (by rw [updZ_same]; rfl) (by rw [updZ_ne _ _ (by omega)]; exact v7) (by omega) (by omega) hb
      refine ⟨f', z, k1, fun k a b => ?_, k3⟩
      rw [k2 k a b, updZ_ne _ _ a, updZ_ne _ _ a, updZ_ne _ _ a]
    · rw [if_pos c1, if_neg c1]
      obtain ⟨f', z, k1, k2, k3⟩ := m_num75 (n := n) (l := j) (v := cb A j - 48) hS H2 hA v6 v7 (by omega) (by omega) hb
      refine ⟨f', z, k1, fun k a b => ?_, k3⟩
      rw [k2 k a b, updZ_ne _ _ a, updZ_ne _ _ a]
  · rw [if_pos c, if_neg c]
    unfold mX10_number_18
    rw [m_bad hS u7 u6 (RI.sm (by omega) (by omega)), if_pos rfl]
    exact ⟨_, 0, rfl, fun k a b => by rw [updZ_ne _ _ b, updZ_ne _ _ a], Or.inr ⟨rfl, updZ_same _ _ _⟩⟩
theorem m_number_er (hS : Msh M σ) {er : Nat} (c : Int32) (h7 : f 7 = er) (he : er ≤ 1000) : ∃ f', mX10_number n (MW M σ f e) M c = some (iI 0, MW M σ f' e) ∧ Same f f' ∧ f' 7 = er := by
  have W := mAll hS
  unfold mX10_number mX10_number_18
  simp only [W, Option.bind_some, h7]
  rw [if_neg (by rw [iI_m1, iI_eq (by omega) (by omega)]; omega), m_bad (wr := (er : Int)) hS h7 rfl (RI.sm (by omega) (by omega)), if_neg (by omega)]
  exact ⟨_, rfl, fun k a b => updZ_ne _ _ b, updZ_same _ _ _⟩
theorem m_moves_er (hS : Msh M σ) {w : Bool} {d er : Nat} (h7 : f 7 = er) (he : er ≤ 1000) (hn : 100000 ≤ n) : mX10_moves n (d + 1) (MW M σ f e) M (bB w) = some (MW M σ f e) := by
  have W := mAll hS
  have eq : mX10_moves n (d + 1) (MW M σ f e) M (bB w) = eX10_moves n (mX10_moves n d) (mX10_move n d) (MW M σ f e) M (bB w) := rfl
  have ne : ¬ iI (er : Int) = (-1 : Int32) := by rw [iI_m1, iI_eq (by omega) (by omega)]; omega
  rw [eq]
  unfold eX10_moves mX10_moves_18
  obtain ⟨m, rfl⟩ : ∃ m, n = m + 1 := ⟨n - 1, by omega⟩
  simp only [W, Option.bind_some, h7, loopM, mX10_moves_L19]
  rw [if_neg ne, if_neg ne]
  simp only [Option.bind_some, mX10_moves_119, if_true]
  rw [m_bad (wr := (er : Int)) hS h7 rfl (RI.sm (by omega) (by omega)), if_neg (by omega), updZ_id h7]
  rfl
/-- the start of a walk -/
def u0 (A : AS) : Pu := (0, fun _ => 16 * (hdF A).2.2.1 + (hdF A).2.1, 0, fun _ => 0)
def RdQ (M n : Nat) (σ : Sg) (A : AS) (w : Bool) (m : Option (Int32 × Sg)) : Prop := ∃ f' e', m = some (iI (flt A), MW M σ f' e') ∧ MH A f' e' ∧ (flt A = -1 → w = true → ∀ L, Sec A (hdF A).2.2.2 1 L (tn A) → PR f' e' (pfo A L (u0 A)))
/-- the end of a reading that went wrong -/
theorem m_read_er (hS : Msh M σ) (h : MH A f e) {w : Bool} {er : Nat} (h7 : f 7 = er) (he : er ≤ 1000) (hf : flt A = er) (hn : 100000 ≤ n) : RdQ M n σ A w ((mX10_moves n 9 (MW M σ f e) M (bB w)).bind fun s22 => (toI (gV 10 s22 M 7)).bind fun v23 => if v23 = (-1 : Int32) then (mX10_look n s22 M).bind fun q => if q.1 = (-1 : Int32) then mX10_read_108 n q.2 M else (mX10_bad n q.2 M).bind fun s28 => mX10_read_108 n s28 M else mX10_read_108 n s22 M) := by
  have W := mAll hS
  rw [m_moves_er hS h7 he hn]
  simp only [Option.bind_some, W, h7, mX10_read_108]
  rw [if_neg (by rw [iI_m1, iI_eq (by omega) (by omega)]; omega)]
  exact ⟨f, e, by rw [hf], h, fun q => by omega⟩
theorem numF_lt {j bd : Nat} (h : (numF A j bd).1 = true) : (numF A j bd).2.2 < bd := by
  unfold numF at h ⊢
  have e : ∀ v l, (numE A bd v l).1 = true → (numE A bd v l).2.2 < bd := fun v l q => by
    unfold numE at q ⊢
    split
    · rename_i c
      split <;> exact c
    · rename_i c; rw [if_neg c] at q; cases q
  split
  · rename_i c
    rw [if_pos c] at h
    split
    · rename_i c1; rw [if_pos c1] at h; exact e _ _ h
    · rename_i c1; rw [if_neg c1] at h; exact e _ _ h
  · rename_i c; rw [if_neg c] at h; cases h
theorem m_read (hS : Msh M σ) (h : MH A f e) (hA : Wf A) (w : Bool) (hn : 100000 ≤ n) : RdQ M n σ A w (mX10_read n (MW M σ f e) M (bB w)) := by
  have W := mAll hS
  have t160 := hA.2.1.1
  have wd := hA.1
  have H5 : MH A (updZ (updZ (updZ (updZ (updZ f 6 0) 7 (-1)) 8 0) 11 0) 12 0) e := ((((h.sc (Sc.f 6 _ (by omega))).sc (Sc.f 7 _ (by omega))).sc (Sc.f 8 _ (by omega))).sc (Sc.f 11 _ (by omega))).sc (Sc.f 12 _ (by omega))
  generalize hf5 : updZ (updZ (updZ (updZ (updZ f 6 0) 7 (-1)) 8 0) 11 0) 12 0 = f5 at H5
  have a6 : f5 6 = ((0 : Nat) : Int) := by rw [← hf5, updZ_ne _ _ (by omega), updZ_ne _ _ (by omega), updZ_ne _ _ (by omega), updZ_ne _ _ (by omega), updZ_same]; rfl
  have a7 : f5 7 = -1 := by rw [← hf5, updZ_ne _ _ (by omega), updZ_ne _ _ (by omega), updZ_ne _ _ (by omega), updZ_same]
  have a8 : f5 8 = 0 := by rw [← hf5, updZ_ne _ _ (by omega), updZ_ne _ _ (by omega), updZ_same]
  have a11 : f5 11 = 0 := by rw [← hf5, updZ_ne _ _ (by omega), updZ_same]
  have a12 : f5 12 = 0 := by rw [← hf5, updZ_same]
  unfold mX10_read
  simp only [W, Option.bind_some, iL, iI_neg, hf5]
  have s0 := sk_le (A := A) (i := 0) (by omega)
  -- behind the head: x, y and the first cell are written
  have tail : ∀ (f1 : Nat → Int) (x y : Int), MH A f1 e → (∀ f2 e2, MH A f2 e2 → f2 7 = f1 7 → f2 6 = f1 6 → f2 8 = f1 8 → f2 11 = f1 11 → f2 12 = f1 12 → f2 13 = x → f2 14 = y → e2 2 0 = 16 * y + x → RdQ M n σ A w ((mX10_moves n 9 (MW M σ f2 e2) M (bB w)).bind fun s22 => (toI (gV 10 s22 M 7)).bind fun v23 => if v23 = iI (-1) then (mX10_look n s22 M).bind fun q => if q.1 = iI (-1) then mX10_read_108 n q.2 M else (mX10_bad n q.2 M).bind fun s28 => mX10_read_108 n s28 M else mX10_read_108 n s22 M)) → f1 13 = x → RdQ M n σ A w ((pV 10 (MW M σ f1 e) M 14 (.int (iI y))).bind fun s17 => (toR (gV 10 s17 M 9)).bind fun b18 => (toI (gV 10 s17 M 14)).bind fun v19 => (toI (gV 10 s17 M 13)).bind fun v20 => (sV 11 s17 b18 (iI 0) (.int (iI 16 * v19 + v20))).bind fun s21 => (mX10_moves n 9 s21 M (bB w)).bind fun s22 => (toI (gV 10 s22 M 7)).bind fun v23 => if v23 = iI (-1) then (mX10_look n s22 M).bind fun q => if q.1 = iI (-1) then mX10_read_108 n q.2 M else (mX10_bad n q.2 M).bind fun s28 => mX10_read_108 n s28 M else mX10_read_108 n s22 M) := by
    intro f1 x y g1 g2 g3
    have b14 : updZ f1 14 y 14 = y := updZ_same _ _ _
    have b13 : updZ f1 14 y 13 = x := by rw [updZ_ne _ _ (by omega)]; exact g3
    simp (disch := omega) only [W, Option.bind_some, b14, b13, iI_mul, iI_add]
    exact g2 _ _ ((g1.sc (Sc.f 14 _ (by omega))).sc (Sc.e 2 _ _ (by omega))) (updZ_ne _ _ (by omega)) (updZ_ne _ _ (by omega)) (updZ_ne _ _ (by omega)) (updZ_ne _ _ (by omega)) (updZ_ne _ _ (by omega)) b13 b14 (by rw [ups_same]; unfold upj; rw [if_pos rfl])
  have tailE : ∀ (f1 : Nat → Int) (x y : Int) (er : Nat), MH A f1 e → f1 7 = er → er ≤ 1000 → flt A = er → f1 13 = x → RdQ M n σ A w ((pV 10 (MW M σ f1 e) M 14 (.int (iI y))).bind fun s17 => (toR (gV 10 s17 M 9)).bind fun b18 => (toI (gV 10 s17 M 14)).bind fun v19 => (toI (gV 10 s17 M 13)).bind fun v20 => (sV 11 s17 b18 (iI 0) (.int (iI 16 * v19 + v20))).bind fun s21 => (mX10_moves n 9 s21 M (bB w)).bind fun s22 => (toI (gV 10 s22 M 7)).bind fun v23 => if v23 = iI (-1) then (mX10_look n s22 M).bind fun q => if q.1 = iI (-1) then mX10_read_108 n q.2 M else (mX10_bad n q.2 M).bind fun s28 => mX10_read_108 n s28 M else mX10_read_108 n s22 M) :=
    fun f1 x y er g1 g2 g3 g4 g5 => tail f1 x y g1 (fun f2 e2 k1 k2 _ _ _ _ _ _ _ => m_read_er hS k1 (k2.trans g2) g3 g4 hn) g5
  obtain ⟨f6, c1, c2, c3⟩ := m_sign_ok (n := n) (e := e) hS H5 hA (c := 64) a6 a7 (by omega) (by omega) hn
  have c1' : mX10_sign n (MW M σ f5 e) M (iI 64) = some (MW M σ f6 e) := c1
  have H6 := Same.mh H5 c2
  simp only [c1', Option.bind_some, W, H6.1.1, iI_sub]
  rcases c3 with ⟨c3, c4, c5⟩ | ⟨c3, c4⟩
  · have in0 := cb_in (A := A) (i := sk A 0) (by omega)
    have e1 : hdF A = hd2 A (numF A (sk A (sk A 0 + 1)) (wide A)) := by unfold hdF hd1; rw [if_pos c3]
    obtain ⟨f7, z, d1, d2, d3⟩ := m_number_ok (n := n) (e := e) (i := sk A 0 + 1) (bd := wide A) hS H6 hA c5 c4 (by omega) (by omega) hn
    have H7 := Same.mh H6 d2
    have p1 := numF_pos (A := A) (j := sk A (sk A 0 + 1)) (bd := wide A) (sk_le (by omega))
    have x1 := numF_lt (A := A) (j := sk A (sk A 0 + 1)) (bd := wide A)
    generalize numF A (sk A (sk A 0 + 1)) (wide A) = q1 at d3 p1 e1 x1
    have H8 : MH A (updZ f7 13 z) e := H7.sc (Sc.f 13 _ (by omega))
    simp only [d1, Option.bind_some, W]
    rcases d3 with ⟨d3, d4, d5, d6⟩ | ⟨d3, d4⟩
    · have e2 : hd2 A q1 = hd3 A q1.2.2 (sk A q1.2.1) := by unfold hd2; rw [if_pos d3]
      have s1 := sk_le p1
      obtain ⟨f9, g1, g2, g3⟩ := m_sign_ok (n := n) (e := e) (i := q1.2.1) hS H8 hA (c := 44) (by rw [updZ_ne _ _ (by omega)]; exact d5) (by rw [updZ_ne _ _ (by omega)]; exact d4) p1 (by omega) hn
      have g1' : mX10_sign n (MW M σ (updZ f7 13 z) e) M (iI 44) = some (MW M σ f9 e) := g1
      have H9 := Same.mh H8 g2
      simp only [g1', Option.bind_some, W, H9.1.2.1, iI_sub]
      rcases g3 with ⟨g3, g4, g5⟩ | ⟨g3, g4⟩
      · have in1 := cb_in (A := A) (i := sk A q1.2.1) (by omega)
        have e3 : hd3 A q1.2.2 (sk A q1.2.1) = hd4 A q1.2.2 (numF A (sk A (sk A q1.2.1 + 1)) (deep A)) := by unfold hd3; rw [if_pos g3]
        obtain ⟨f10, z2, k1, k2, k3⟩ := m_number_ok (n := n) (e := e) (i := sk A q1.2.1 + 1) (bd := deep A) hS H9 hA g5 g4 (by omega) (by omega) hn
        have H10 := Same.mh H9 k2
        have p2 := numF_pos (A := A) (j := sk A (sk A q1.2.1 + 1)) (bd := deep A) (sk_le (by omega))
        have x2 := numF_lt (A := A) (j := sk A (sk A q1.2.1 + 1)) (bd := deep A)
        generalize numF A (sk A (sk A q1.2.1 + 1)) (deep A) = q2 at k3 p2 e3 x2
        simp only [k1, Option.bind_some]
        have f13 : f10 13 = z := by rw [k2 13 (by omega) (by omega), g2 13 (by omega) (by omega), updZ_same]
        rcases k3 with ⟨k3, k4, k5, k6⟩ | ⟨k3, k4⟩
        · have e4 : hd4 A q1.2.2 q2 = (-1, q1.2.2, q2.2.2, q2.2.1) := by unfold hd4; rw [if_pos k3]
          have eh : hdF A = (-1, q1.2.2, q2.2.2, q2.2.1) := by rw [e1, e2, e3, e4]
          have efl : flt A = au A (tn A - q2.2.1) q2.2.1 0 false false := by unfold flt; rw [eh, if_pos rfl]
          have f8' : f10 8 = ((0 : Nat) : Int) := by rw [k2 8 (by omega) (by omega), g2 8 (by omega) (by omega), updZ_ne _ _ (by omega), d2 8 (by omega) (by omega), c2 8 (by omega) (by omega), a8]; rfl
          have f11' : f10 11 = 0 := by rw [k2 11 (by omega) (by omega), g2 11 (by omega) (by omega), updZ_ne _ _ (by omega), d2 11 (by omega) (by omega), c2 11 (by omega) (by omega), a11]
          have f12' : f10 12 = 0 := by rw [k2 12 (by omega) (by omega), g2 12 (by omega) (by omega), updZ_ne _ _ (by omega), d2 12 (by omega) (by omega), c2 12 (by omega) (by omega), a12]
          refine tail f10 z z2 H10 (fun f2 e2 m1 m2 m3 m4 m5 m6 m7 m8 m9 => ?_) f13
          have y1 := x1 d3
          have y2 := x2 k3
          have hu0 : PWf A (u0 A) := by
            refine ⟨by show 0 ≤ 60; omega, by show 0 ≤ 0; omega, fun k hk => ?_, fun k hk => by have hk' : k < 0 := hk; omega⟩
            show inY A (16 * (hdF A).2.2.1 + (hdF A).2.1)
            rw [eh]
            show inY A (16 * q2.2.2 + q1.2.2)
            unfold inY
            omega
          have hP0 : PR f2 e2 (u0 A) := by
            unfold u0
            rw [eh]
            refine ⟨by rw [m5, f11']; rfl, by rw [m6, f12']; rfl, ?_, ?_, fun k hk => ?_, fun k hk => by have hk' : k < 0 := hk; omega⟩
            · show f2 13 = ((16 * q2.2.2 + q1.2.2) % 16 : Nat)
              rw [m7, d6]; omega
            · show f2 14 = ((16 * q2.2.2 + q1.2.2) / 16 : Nat)
              rw [m8, k6]; omega
            · have hk' : k ≤ 0 := hk
              rw [show k = 0 by omega]
              show e2 2 0 = ((16 * q2.2.2 + q1.2.2 : Nat) : Int)
              rw [m9, d6, k6]
              omega
          obtain ⟨f3, e3', n1, n2, n3, n4⟩ := m_moves9 (w := w) (n := n) hS hA hn q2.2.1 (u0 A) f2 e2 m1 (by rw [m3]; exact k5) (by rw [m2]; exact k4) (by rw [m4]; exact f8') p2 hu0 (fun _ => hP0)
          simp only [n1, Option.bind_some, W, mX10_read_108]
          rcases n4 with ⟨er, r1, r2⟩ | ⟨r0, j, L, r1, r2, r3, r4, r5, r6⟩
          · have rr := au_R (A := A) (tn A - q2.2.1) q2.2.1 0 false false
            rw [r1, if_neg (by rw [iI_eq (by omega) (by omega)]; omega)]
            exact ⟨f3, e3', by rw [efl, r2], n2, fun q => by omega⟩
          · have skj : sk A j = j := ((sk_blk j).unique (Blk.here r3.1))
            have lk := m_look1 (n := n) hS n2 hA r1 (by omega) hn
            rw [skj, updZ_id r1] at lk
            simp only [r0, if_true, lk, Option.bind_some]
            have rj := rb_or hA j
            by_cases cj : j = tn A
            · rw [if_pos (by rw [show rb A j = -1 by omega])]
              have fv : flt A = -1 := by rw [efl, r4, cj, au_out, if_pos ⟨rfl, rfl, rfl⟩]
              refine ⟨f3, e3', by rw [fv]; simp only [W, Option.bind_some, r0], n2, fun _ z L' hs => ?_⟩
              have sj : Sec A q2.2.1 1 (L ++ []) j := r5 [] j (Sec.stop (Or.inl (by omega)))
              rw [List.append_nil] at sj
              rw [eh] at hs
              obtain ⟨eL, -⟩ := sj.unique hs
              rw [← eL]
              exact r6 z
            · rw [if_neg (by rw [iI_eq (by omega) (by omega)]; omega), m_bad hS r0 r1 (RI.sm (by omega) (by omega)), if_pos rfl]
              have u7 : updZ f3 7 (j : Int) 7 = (j : Int) := updZ_same _ _ _
              simp only [Option.bind_some, W, u7]
              have fv : flt A = j := by
                rw [efl, r4]
                exact au_bad r2 r3.1 r3.2.1 (fun q => r3.2.2.1 q.1) (fun q => r3.2.2.2 q.1) (fun q => cj q.2.2.2) (fun q => by omega)
              exact ⟨_, e3', by rw [fv], n2.sc (Sc.f 7 _ (by omega)), fun q => by omega⟩
        · have e4 : hd4 A q1.2.2 q2 = ((q2.2.1 : Int), 0, 0, 0) := by unfold hd4; rw [if_neg (by rw [k3]; decide)]
          have eh : flt A = (q2.2.1 : Int) := by unfold flt; rw [e1, e2, e3, e4]; exact if_neg (by show ¬ (q2.2.1 : Int) = -1; omega)
          exact tailE f10 z z2 q2.2.1 H10 k4 (by omega) eh f13
      · have e3 : hd3 A q1.2.2 (sk A q1.2.1) = ((sk A q1.2.1 : Int), 0, 0, 0) := by unfold hd3; rw [if_neg g3]
        have eh : flt A = (sk A q1.2.1 : Int) := by unfold flt; rw [e1, e2, e3]; exact if_neg (by show ¬ (sk A q1.2.1 : Int) = -1; omega)
        obtain ⟨f10, k1, k2, k3⟩ := m_number_er (n := n) (e := e) hS (iI ((deep A : Int) - 1)) g4 (by omega)
        simp only [k1, Option.bind_some]
        exact tailE f10 z 0 _ (Same.mh H9 k2) k3 (by omega) eh (by rw [k2 13 (by omega) (by omega), g2 13 (by omega) (by omega), updZ_same])
    · have e2 : hd2 A q1 = ((q1.2.1 : Int), 0, 0, 0) := by unfold hd2; rw [if_neg (by rw [d3]; decide)]
      have eh : flt A = (q1.2.1 : Int) := by unfold flt; rw [e1, e2]; exact if_neg (by show ¬ (q1.2.1 : Int) = -1; omega)
      obtain ⟨f9, g1, g2, g3⟩ := m_sign_er (n := n) (e := e) (f := updZ f7 13 z) hS (iI 44) (by rw [updZ_ne _ _ (by omega)]; exact d4) (by omega)
      have H9 := Same.mh H8 g2
      simp only [g1, Option.bind_some, W, H9.1.2.1, iI_sub]
      obtain ⟨f10, k1, k2, k3⟩ := m_number_er (n := n) (e := e) hS (iI ((deep A : Int) - 1)) g3 (by omega)
      simp only [k1, Option.bind_some]
      exact tailE f10 z 0 _ (Same.mh H9 k2) k3 (by omega) eh (by rw [k2 13 (by omega) (by omega), g2 13 (by omega) (by omega), updZ_same])
  · have e1 : hdF A = ((sk A 0 : Int), 0, 0, 0) := by unfold hdF hd1; rw [if_neg c3]
    have eh : flt A = (sk A 0 : Int) := by unfold flt; rw [e1]; exact if_neg (by show ¬ (sk A 0 : Int) = -1; omega)
    obtain ⟨f7, d1, d2, d3⟩ := m_number_er (n := n) (e := e) hS (iI ((wide A : Int) - 1)) c4 (by omega)
    have H8 : MH A (updZ f7 13 0) e := (Same.mh H6 d2).sc (Sc.f 13 _ (by omega))
    simp only [d1, Option.bind_some, W]
    obtain ⟨f9, g1, g2, g3⟩ := m_sign_er (n := n) (e := e) (f := updZ f7 13 0) hS (iI 44) (by rw [updZ_ne _ _ (by omega)]; exact d3) (by omega)
    have H9 := Same.mh H8 g2
    simp only [g1, Option.bind_some, W, H9.1.2.1, iI_sub]
    obtain ⟨f10, k1, k2, k3⟩ := m_number_er (n := n) (e := e) hS (iI ((deep A : Int) - 1)) g3 (by omega)
    simp only [k1, Option.bind_some]
    exact tailE f10 0 0 _ (Same.mh H9 k2) k3 (by omega) eh (by rw [k2 13 (by omega) (by omega), g2 13 (by omega) (by omega), updZ_same])
theorem m_fault (hS : Msh M σ) (h : MH A f e) (hA : Wf A) (hn : 100000 ≤ n) : ∃ f' e', mX10_fault n (MW M σ f e) M = some (iI (flt A), MW M σ f' e') ∧ MH A f' e' := by
  have W := mAll hS
  obtain ⟨f', e', k1, k2, -⟩ := m_read (n := n) hS h hA false hn
  have k1' : mX10_read n (MW M σ f e) M (0 : Int32) = some (iI (flt A), MW M σ f' e') := k1
  refine ⟨f', e', ?_, k2⟩
  unfold mX10_fault
  simp only [W, Option.bind_some, k1']
end X81
