/-! ===== the tape as a text ===== -/
/-- a byte, 0 behind the end -/
def cb (A : AS) (i : Nat) : Nat := if i < tn A then tb A i else 0
/-- the next place that is no blank -/
def skf (A : AS) : Nat → Nat → Nat
  | 0, i => i
  | k + 1, i => if cb A i = 32 then skf A k (i + 1) else i
def sk (A : AS) (i : Nat) : Nat := skf A (tn A + 1) i
def Blk (A : AS) (i j : Nat) : Prop := i ≤ j ∧ (∀ k, i ≤ k → k < j → cb A k = 32) ∧ cb A j ≠ 32
abbrev isMv (c : Nat) : Prop := c = 110 ∨ c = 101 ∨ c = 115 ∨ c = 119 ∨ c = 122 ∨ c = 98
abbrev isRp (c : Nat) : Prop := 50 ≤ c ∧ c ≤ 57
abbrev isDg (c : Nat) : Prop := 48 ≤ c ∧ c ≤ 57
/-- the moves, from place i on: how deep, whether a move was there, whether a number waits -/
def au (A : AS) : Nat → Nat → Nat → Bool → Bool → Int
  | 0, i, o, s, r => if o = 0 ∧ s = true ∧ r = false then -1 else i
  | k + 1, i, o, s, r =>
    if isMv (cb A i) then au A k (i + 1) o true false
    else if isRp (cb A i) ∧ r = false then au A k (i + 1) o s true
    else if cb A i = 40 ∧ o < 3 then au A k (i + 1) (o + 1) false false
    else if cb A i = 41 ∧ 0 < o ∧ s = true ∧ r = false then au A k (i + 1) (o - 1) s r
    else if cb A i = 32 then au A k (i + 1) o s r
    else i
/-- a number at place j: whether it is well, the place behind or of the fault, its value -/
def numE (A : AS) (bd v l : Nat) : Bool × Nat × Nat := if v < bd then (if isDg (cb A (l + 1)) then (false, l + 1, v) else (true, l + 1, v)) else (false, l, v)
def numF (A : AS) (j bd : Nat) : Bool × Nat × Nat := if isDg (cb A j) then (if isDg (cb A (j + 1)) then numE A bd (10 * (cb A j - 48) + (cb A (j + 1) - 48)) (j + 1) else numE A bd (cb A j - 48) j) else (false, j, 0)
/-- the head of a walk: the fault or -1; x, y, where the moves begin -/
def hd4 (A : AS) (x : Nat) (q : Bool × Nat × Nat) : Int × Nat × Nat × Nat := if q.1 = true then (-1, x, q.2.2, q.2.1) else (q.2.1, 0, 0, 0)
def hd3 (A : AS) (x i : Nat) : Int × Nat × Nat × Nat := if cb A i = 44 then hd4 A x (numF A (sk A (i + 1)) (deep A)) else (i, 0, 0, 0)
def hd2 (A : AS) (q : Bool × Nat × Nat) : Int × Nat × Nat × Nat := if q.1 = true then hd3 A q.2.2 (sk A q.2.1) else (q.2.1, 0, 0, 0)
def hd1 (A : AS) (i : Nat) : Int × Nat × Nat × Nat := if cb A i = 64 then hd2 A (numF A (sk A (i + 1)) (wide A)) else (i, 0, 0, 0)
def hdF (A : AS) : Int × Nat × Nat × Nat := hd1 A (sk A 0)
def flt (A : AS) : Int := if (hdF A).1 = -1 then au A (tn A - (hdF A).2.2.2) (hdF A).2.2.2 0 false false else (hdF A).1
section X75
variable {A : AS}
theorem cb_end {i : Nat} (h : tn A ≤ i) : cb A i = 0 := by unfold cb; rw [if_neg (by omega)]
theorem cb_R (hA : Wf A) (i : Nat) : cb A i ≤ 255 := by
  unfold cb
  split
  · rename_i h; exact (hA.2.1.2 i h).2
  · omega
theorem cb_in {i : Nat} (h : cb A i ≠ 0) : i < tn A := by
  rcases Nat.lt_or_ge i (tn A) with z | z
  · exact z
  · exact absurd (cb_end z) h
theorem skf_ge (A : AS) : ∀ k i, i ≤ skf A k i
  | 0, i => Nat.le_refl _
  | k + 1, i => by
    unfold skf
    split
    · have := skf_ge A k (i + 1); omega
    · exact Nat.le_refl _
theorem skf_blk : ∀ k i, tn A < i + k → Blk A i (skf A k i)
  | 0, i, h => ⟨Nat.le_refl _, fun k h1 h2 => by unfold skf at h2; omega, by unfold skf; rw [cb_end (by omega)]; omega⟩
  | k + 1, i, h => by
    unfold skf
    by_cases c : cb A i = 32
    · rw [if_pos c]
      obtain ⟨a, b, d⟩ := skf_blk k (i + 1) (by omega)
      refine ⟨by omega, fun j h1 h2 => ?_, d⟩
      by_cases z : j = i
      · rw [z]; exact c
      · exact b j (by omega) h2
    · rw [if_neg c]
      exact ⟨Nat.le_refl _, fun j h1 h2 => by omega, c⟩
theorem sk_blk (i : Nat) : Blk A i (sk A i) := skf_blk _ _ (by omega)
theorem Blk.unique {i j j' : Nat} (h : Blk A i j) (h' : Blk A i j') : j = j' := by
  rcases Nat.lt_trichotomy j j' with z | z | z
  · exact absurd (h'.2.1 j h.1 z) h.2.2
  · exact z
  · exact absurd (h.2.1 j' h'.1 z) h'.2.2
theorem Blk.sk {i j : Nat} (h : Blk A i j) : j = sk A i := h.unique (sk_blk i)
theorem Blk.step {i j : Nat} (h : Blk A (i + 1) j) (c : cb A i = 32) : Blk A i j := ⟨by have := h.1; omega, fun k h1 h2 => by
  by_cases z : k = i
  · rw [z]; exact c
  · exact h.2.1 k (by omega) h2, h.2.2⟩
theorem Blk.here {i : Nat} (c : cb A i ≠ 32) : Blk A i i := ⟨Nat.le_refl _, fun k h1 h2 => by omega, c⟩
theorem Blk.le {i j : Nat} (h : Blk A i j) (hi : i ≤ tn A) : j ≤ tn A := by
  rcases Nat.lt_or_ge (tn A) j with z | z
  · have := h.2.1 (tn A) hi z
    rw [cb_end (Nat.le_refl _)] at this
    omega
  · exact z
theorem sk_le {i : Nat} (hi : i ≤ tn A) : sk A i ≤ tn A := (sk_blk i).le hi
theorem sk_ge (A : AS) (i : Nat) : i ≤ sk A i := skf_ge A _ i
theorem au_s (k i o : Nat) (s r : Bool) : au A (k + 1) i o s r = if isMv (cb A i) then au A k (i + 1) o true false
    else if isRp (cb A i) ∧ r = false then au A k (i + 1) o s true
    else if cb A i = 40 ∧ o < 3 then au A k (i + 1) (o + 1) false false
    else if cb A i = 41 ∧ 0 < o ∧ s = true ∧ r = false then au A k (i + 1) (o - 1) s r
    else if cb A i = 32 then au A k (i + 1) o s r
    else i := rfl
end X75
/-! ===== the class's tape ===== -/
def TT (B : Nat) (s : Sg) (g : Nat → Value) : Sg := (s.1, s.2.1, upA s.2.2 (B + 1) g)
theorem TT_at {B : Nat} {s : Sg} {g : Nat → Value} : (TT B s g).2.2 (B + 1) = g := by simp [TT, upA]
theorem TT_ne {B : Nat} {s : Sg} {g : Nat → Value} {a : Nat} (h : a ≠ B + 1) : (TT B s g).2.2 a = s.2.2 a := by simp [TT, upA, h]
theorem TT_id {B : Nat} {s : Sg} : TT B s (s.2.2 (B + 1)) = s := by
  have h : upA s.2.2 (B + 1) (s.2.2 (B + 1)) = s.2.2 := by
    funext a
    unfold upA
    split
    · rename_i h; rw [h]
    · rfl
  unfold TT
  rw [h]
theorem updV_self (g : Nat → Value) (k : Nat) (v : Value) : updV g k v k = v := by simp [updV]
theorem updV_ne (g : Nat → Value) {k j : Nat} (v : Value) (h : j ≠ k) : updV g k v j = g j := by simp [updV, h]
section X75b
variable {B n : Nat} {wa : Nat → Nat} {s : Sg} {A : AS} {g : Nat → Value}
theorem TT_p (h : St B wa s A) (k : Nat) (hk : k < 7) (v : Value) : pV 7 (TT B s g) (B + 1) k v = some (TT B s (updV g k v)) := by
  have h7 : (TT B s g).2.1 (B + 1) = some (7, 7) := h.1.t
  rw [pV_ok h7 hk]
  have e : up2 (TT B s g).2.2 (B + 1) k v = upA s.2.2 (B + 1) (updV g k v) := by
    funext a
    by_cases c : a = B + 1
    · rw [c]; simp [up2, upA, TT]
    · simp [up2, upA, TT, c]
  show some (((TT B s g).1, (TT B s g).2.1, up2 (TT B s g).2.2 (B + 1) k v) : Sg) = _
  rw [e]
  rfl
theorem TT_g (h : St B wa s A) (k : Nat) (hk : k < 7) {z : Int32} (hz : g k = .int z) : toI (gV 7 (TT B s g) (B + 1) k) = some z := by
  have h7 : (TT B s g).2.1 (B + 1) = some (7, 7) := h.1.t
  exact gI_ok h7 hk (by rw [TT_at]; exact hz)
theorem TT_St (h : St B wa s A) (hg : ∀ k, k < 2 → g k = s.2.2 (B + 1) k) : St B wa (TT B s g) A ∧ Fr B s (TT B s g) := by
  have F : Fr B s (TT B s g) := by
    refine ⟨rfl, rfl, fun a k hk => ?_⟩
    by_cases c : a = B + 1
    · subst c
      rw [TT_at]
      by_cases z : k < 2
      · exact hg k z
      · refine absurd ⟨by omega, by omega, ?_⟩ hk
        rw [show B + 1 - B = 1 by omega]
        have d2 : decide (2 ≤ k) = true := decide_eq_true (by omega)
        unfold sp
        rw [d2]
        rfl
    · rw [TT_ne c]
  exact ⟨⟨h.1.fr F, h.2.1.same rfl (fun r _ _ q _ _ _ _ => TT_ne (by omega)), h.2.2⟩, F⟩
theorem x_byteAt (h : RC B wa s A) (hA : Wf A) {i : Nat} (hi : i ≤ 1000000) : mX7_byteAt n s (B + 1) (iI (i : Int)) = some (iI (cb A i : Nat), s) := by
  have t160 := hA.2.1.1
  obtain ⟨e, m1, m2⟩ := h.2.2.2.2.2.2.1
  have s2 : s.2.1 (B + 2) = some (11, 160) := h.sh 2 (by omega)
  unfold mX7_byteAt cb
  simp only [isO_ok h.t, Option.bind_some, h.tsize, h.tbytes, iI_0]
  rw [if_neg (by rw [iI_lt (by omega) (by omega)]; omega)]
  by_cases c : i < tn A
  · rw [if_neg (by rw [iI_le (by omega) (by omega)]; omega), if_pos c, aI_ok s2 m1 (by omega) (by omega) (by omega), show ((i : Int)).toNat = i by omega, m2 i c]
    rfl
  · rw [if_pos (by rw [iI_le (by omega) (by omega)]; omega), if_neg c]
    rfl
theorem x_isDigit {c : Nat} (h : c ≤ 255) : mX7_isDigit n s (iI (c : Int)) = some (if isDg c then 1 else 0, s) := by
  unfold mX7_isDigit
  simp (disch := omega) only [iL, iI_lt]
  by_cases c1 : c < 48
  · rw [if_pos (by omega), if_neg (by omega)]
  · rw [if_neg (by omega)]
    by_cases c2 : 57 < c
    · rw [if_pos (by omega), if_neg (by omega)]
    · rw [if_neg (by omega), if_pos (by omega)]
theorem x_isMove {c : Nat} (h : c ≤ 255) : mX7_isMove n s (iI (c : Int)) = some (if isMv c then 1 else 0, s) := by
  unfold mX7_isMove mX7_isMove_36
  simp (disch := omega) only [iL, iI_eq]
  by_cases c1 : c = 110
  · rw [if_pos (by omega), if_pos (by omega)]
  · rw [if_neg (by omega)]
    by_cases c2 : c = 101
    · rw [if_pos (by omega), if_pos (by omega)]
    · rw [if_neg (by omega)]
      by_cases c3 : c = 115
      · rw [if_pos (by omega), if_pos (by omega)]
      · rw [if_neg (by omega)]
        by_cases c4 : c = 119
        · rw [if_pos (by omega), if_pos (by omega)]
        · rw [if_neg (by omega)]
          by_cases c5 : c = 122
          · rw [if_pos (by omega), if_pos (by omega)]
          · rw [if_neg (by omega)]
            by_cases c6 : c = 98
            · rw [if_pos (by omega), if_pos (by omega)]
            · rw [if_neg (by omega), if_neg (by omega)]
/-- g is a tape's row: its bytes and size, the place read -/
def Tp (B : Nat) (s : Sg) (g : Nat → Value) (i : Nat) : Prop := (∀ k, k < 2 → g k = s.2.2 (B + 1) k) ∧ g 2 = .int (iI (i : Int))
theorem Tp.go {i : Nat} (h : Tp B s g i) (j : Nat) : Tp B s (updV g 2 (.int (iI (j : Int)))) j := ⟨fun k hk => by rw [updV_ne _ _ (by omega)]; exact h.1 k hk, updV_self _ _ _⟩
theorem Tp.put {i : Nat} (h : Tp B s g i) {k : Nat} (hk : 3 ≤ k) (v : Value) : Tp B s (updV g k v) i := ⟨fun j hj => by rw [updV_ne _ _ (by omega)]; exact h.1 j hj, by rw [updV_ne _ _ (by omega)]; exact h.2⟩
theorem updV_2 (g : Nat → Value) (k : Nat) (v w : Value) : updV (updV g k v) k w = updV g k w := by
  funext j
  simp only [updV]
  split <;> rfl
theorem updV_id {g : Nat → Value} {k : Nat} {v : Value} (h : g k = v) : updV g k v = g := by
  funext j
  simp only [updV]
  split
  · rename_i q; rw [q, h]
  · rfl
theorem x_skip (h : St B wa s A) {i : Nat} (hg : Tp B s g i) (hi : i ≤ 200) (hn : 100000 ≤ n) : mX7_skipBlanks n (TT B s g) (B + 1) = some (TT B s (updV g 2 (.int (iI (sk A i : Nat))))) := by
  have hA := h.2.2
  have t160 := hA.2.1.1
  have h7 : ∀ g, (TT B s g).2.1 (B + 1) = some (7, 7) := fun g => h.1.t
  have key : ∀ k i g f, tn A < i + k → i ≤ 1000 → Tp B s g i → k < f → ∃ j, Blk A i j ∧ loopM (mX7_skipBlanks_L0 n (B + 1)) f (TT B s g) = some (TT B s (updV g 2 (.int (iI (j : Int))))) := by
    intro k
    induction k with
    | zero =>
      intro i g f h1 h2 h3 h4
      obtain ⟨f, rfl⟩ : ∃ f', f = f' + 1 := ⟨f - 1, by omega⟩
      obtain ⟨S1, -⟩ := TT_St h h3.1
      refine ⟨i, Blk.here (by rw [cb_end (by omega)]; omega), ?_⟩
      simp only [loopM, mX7_skipBlanks_L0, TT_g h 2 (by omega) h3.2, Option.bind_some, S1.1.tsize]
      rw [if_pos (by rw [iI_le (by omega) (by omega)]; omega), updV_id h3.2]
    | succ k ih =>
      intro i g f h1 h2 h3 h4
      obtain ⟨f, rfl⟩ : ∃ f', f = f' + 1 := ⟨f - 1, by omega⟩
      obtain ⟨S1, -⟩ := TT_St h h3.1
      simp only [loopM, mX7_skipBlanks_L0, TT_g h 2 (by omega) h3.2, Option.bind_some, S1.1.tsize, x_byteAt S1.1 hA (show i ≤ 1000000 by omega), TT_p h 2 (by omega), iI_s1]
      by_cases c : tn A ≤ i
      · rw [if_pos (by rw [iI_le (by omega) (by omega)]; omega)]
        refine ⟨i, Blk.here (by rw [cb_end c]; omega), ?_⟩
        simp only [updV_id h3.2]
      · rw [if_neg (by rw [iI_le (by omega) (by omega)]; omega)]
        have cr := cb_R hA i
        by_cases c1 : cb A i = 32
        · rw [if_pos (by rw [c1]; rfl)]
          obtain ⟨j, j1, j2⟩ := ih (i + 1) (updV g 2 (.int (iI ((i + 1 : Nat) : Int)))) f (by omega) (by omega) (h3.go (i + 1)) (by omega)
          refine ⟨j, j1.step c1, ?_⟩
          rw [updV_2] at j2
          exact j2
        · rw [if_neg (by rw [iL, iI_eq (by omega) (by omega)]; omega)]
          refine ⟨i, Blk.here c1, ?_⟩
          simp only [updV_id h3.2]
  obtain ⟨j, j1, j2⟩ := key (tn A + 1) i g n (by omega) (by omega) hg (by omega)
  rw [j1.sk] at j2
  unfold mX7_skipBlanks
  simp only [isO_ok (h7 g), Option.bind_some, j2]
theorem x_reads (h : St B wa s A) {i c : Nat} (hg : Tp B s g i) (hi : i ≤ tn A) (hc : 1 ≤ c ∧ c ≤ 255) (hn : 100000 ≤ n) : (cb A (sk A i) = c ∧ mX7_reads n (TT B s g) (B + 1) (iI (c : Int)) = some (1, TT B s (updV g 2 (.int (iI (sk A i + 1 : Nat)))))) ∨ (cb A (sk A i) ≠ c ∧ mX7_reads n (TT B s g) (B + 1) (iI (c : Int)) = some (0, TT B s (updV g 2 (.int (iI (sk A i : Nat)))))) := by
  have hA := h.2.2
  have t160 := hA.2.1.1
  have h7 : ∀ g, (TT B s g).2.1 (B + 1) = some (7, 7) := fun g => h.1.t
  have sl := sk_le hi
  have G1 := hg.go (sk A i)
  obtain ⟨S1, -⟩ := TT_St h G1.1
  have cr := cb_R hA (sk A i)
  unfold mX7_reads
  simp only [isO_ok (h7 g), Option.bind_some, x_skip h hg (by omega) hn, TT_g h 2 (by omega) G1.2, x_byteAt S1.1 hA (show sk A i ≤ 1000000 by omega), TT_p h 2 (by omega), pt1, updV_2]
  by_cases c1 : cb A (sk A i) = c
  · left
    rw [if_pos (by rw [c1])]
    exact ⟨c1, rfl⟩
  · right
    rw [if_neg (by rw [iI_eq (by omega) (by omega)]; omega)]
    exact ⟨c1, rfl⟩
/-- what the reading of a number leaves -/
def NmQ (B : Nat) (s : Sg) (g : Nat → Value) (q : Bool × Nat × Nat) (m : Option (Int32 × Sg)) : Prop := ∃ g', m = some (if q.1 = true then 1 else 0, TT B s g') ∧ Tp B s g' q.2.1 ∧ (q.1 = true → g' 3 = .int (iI (q.2.2 : Int))) ∧ ∀ k, 4 ≤ k → g' k = g k
theorem x_num84 (h : St B wa s A) {l v bd : Nat} (hg : Tp B s g l) (h3 : g 3 = .int (iI (v : Int))) (hl : l ≤ 200) (hv : v ≤ 1000) (hb : bd ≤ 1000) : NmQ B s g (numE A bd v l) (mX7_readsNumber_84 n (TT B s g) (B + 1) (iI (bd : Int))) := by
  have hA := h.2.2
  unfold mX7_readsNumber_84 numE NmQ
  have G1 := hg.go (l + 1)
  obtain ⟨S1, -⟩ := TT_St h G1.1
  have cr := cb_R hA (l + 1)
  simp only [TT_g h 3 (by omega) h3, Option.bind_some, TT_g h 2 (by omega) hg.2, pt1, TT_p h 2 (by omega), TT_g h 2 (by omega) G1.2, x_byteAt S1.1 hA (show l + 1 ≤ 1000000 by omega), x_isDigit cr]
  by_cases c : v < bd
  · rw [if_pos (by rw [iI_lt (by omega) (by omega)]; omega), if_pos c]
    by_cases c1 : isDg (cb A (l + 1))
    · rw [if_pos c1, if_pos c1, if_neg i10]
      exact ⟨_, rfl, G1, fun q => (by cases q), fun k hk => updV_ne _ _ (by omega)⟩
    · rw [if_neg c1, if_neg c1, if_pos i00]
      exact ⟨_, rfl, G1, fun _ => by rw [updV_ne _ _ (by omega)]; exact h3, fun k hk => updV_ne _ _ (by omega)⟩
  · rw [if_neg (by rw [iI_lt (by omega) (by omega)]; omega), if_neg c]
    exact ⟨g, rfl, hg, fun q => (by cases q), fun k hk => rfl⟩
theorem x_number (h : St B wa s A) {i bd : Nat} (hg : Tp B s g i) (hi : i ≤ tn A) (hb : bd ≤ 1000) (hn : 100000 ≤ n) : NmQ B s g (numF A (sk A i) bd) (mX7_readsNumber n (TT B s g) (B + 1) (iI (bd : Int))) := by
  have hA := h.2.2
  have t160 := hA.2.1.1
  have h7 : ∀ g, (TT B s g).2.1 (B + 1) = some (7, 7) := fun g => h.1.t
  have sl := sk_le hi
  have G1 := hg.go (sk A i)
  generalize hj : sk A i = j at sl G1
  have hskip := x_skip (n := n) h hg (by omega) hn
  rw [hj] at hskip
  obtain ⟨S1, -⟩ := TT_St h G1.1
  have cr := cb_R hA j
  have cr1 := cb_R hA (j + 1)
  unfold mX7_readsNumber numF
  simp only [isO_ok (h7 g), Option.bind_some, hskip, TT_g h 2 (by omega) G1.2, x_byteAt S1.1 hA (show j ≤ 1000000 by omega), x_isDigit cr]
  by_cases c : isDg (cb A j)
  · rw [if_pos c, if_pos c, if_neg i10]
    have e1 : iI (cb A j : Nat) - (48 : Int32) = iI ((cb A j - 48 : Nat) : Int) := by
      rw [iL, iI_sub, show ((cb A j : Nat) : Int) - 48 = ((cb A j - 48 : Nat) : Int) by omega]
    have G2 := G1.put (k := 3) (by omega) (.int (iI ((cb A j - 48 : Nat) : Int)))
    obtain ⟨S2, -⟩ := TT_St h G2.1
    simp only [Option.bind_some, e1, TT_p h 3 (by omega), TT_g h 2 (by omega) G2.2, pt1, x_byteAt S2.1 hA (show j + 1 ≤ 1000000 by omega), x_isDigit cr1]
    by_cases c1 : isDg (cb A (j + 1))
    · rw [if_pos c1, if_pos c1, if_neg i10]
      have G3 := G2.go (j + 1)
      obtain ⟨S3, -⟩ := TT_St h G3.1
      have n3 : updV (updV (updV g 2 (.int (iI (j : Int)))) 3 (.int (iI ((cb A j - 48 : Nat) : Int)))) 2 (.int (iI ((j + 1 : Nat) : Int))) 3 = .int (iI ((cb A j - 48 : Nat) : Int)) := by
        rw [updV_ne _ _ (by omega), updV_self]
      have e2 : (10 : Int32) * iI ((cb A j - 48 : Nat) : Int) + iI (cb A (j + 1) : Nat) - (48 : Int32) = iI ((10 * (cb A j - 48) + (cb A (j + 1) - 48) : Nat) : Int) := by
        simp only [iL, iI_mul, iI_add, iI_sub]
        rw [show (10 : Int) * ((cb A j - 48 : Nat) : Int) + ((cb A (j + 1) : Nat) : Int) - 48 = ((10 * (cb A j - 48) + (cb A (j + 1) - 48) : Nat) : Int) by omega]
      simp only [Option.bind_some, TT_p h 2 (by omega), TT_g h 3 (by omega) n3, TT_g h 2 (by omega) G3.2, x_byteAt S3.1 hA (show j + 1 ≤ 1000000 by omega), e2, TT_p h 3 (by omega)]
      obtain ⟨g', k1, k2, k3, k4⟩ := x_num84 (n := n) h (G3.put (k := 3) (by omega) (.int (iI ((10 * (cb A j - 48) + (cb A (j + 1) - 48) : Nat) : Int)))) (updV_self _ _ _) (by omega) (by omega) hb
      refine ⟨g', k1, k2, k3, fun k hk => ?_⟩
      rw [k4 k hk, updV_ne _ _ (by omega), updV_ne _ _ (by omega), updV_ne _ _ (by omega), updV_ne _ _ (by omega)]
    · rw [if_neg c1, if_neg c1, if_pos i00]
      obtain ⟨g', k1, k2, k3, k4⟩ := x_num84 (n := n) h G2 (updV_self _ _ _) (by omega) (by omega) hb
      refine ⟨g', k1, k2, k3, fun k hk => ?_⟩
      rw [k4 k hk, updV_ne _ _ (by omega), updV_ne _ _ (by omega)]
  · rw [if_neg c, if_neg c, if_pos i00]
    exact ⟨_, rfl, G1, fun q => (by cases q), fun k hk => updV_ne _ _ (by omega)⟩
end X75b
