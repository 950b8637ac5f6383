/-! ===== span, one, meets ===== -/
def spn (X : Nat → Nat → Int) : Nat → Int
  | 0 => 0
  | w + 1 => spn X w + (-X (w + 1) 0 - X 0 (w + 1))
def sm (f : Nat → Int) : Nat → Int
  | 0 => 0
  | k + 1 => sm f k + f k
theorem sm_R {f : Nat → Int} {c : Int} (hf : ∀ k, 0 ≤ f k ∧ f k ≤ c) : ∀ k : Nat, 0 ≤ sm f k ∧ sm f k ≤ c * k
  | 0 => by simp [sm]
  | k + 1 => by
    have h1 := sm_R hf k
    have h2 := hf k
    have h3 : c * ((k + 1 : Nat) : Int) = c * k + c := by
      rw [show (((k + 1 : Nat) : Int)) = (k : Int) + 1 by omega, Int.mul_add, Int.mul_one]
    unfold sm
    omega
theorem sm_congr {f g : Nat → Int} : ∀ k : Nat, (∀ j, j < k → f j = g j) → sm f k = sm g k
  | 0, _ => rfl
  | k + 1, h => by
    unfold sm
    rw [sm_congr k (fun j hj => h j (by omega)), h k (by omega)]
theorem spn_congr {X X' : Nat → Nat → Int} : ∀ w : Nat, (∀ i j, i < w + 1 → j < w + 1 → X i j = X' i j) → spn X w = spn X' w
  | 0, _ => rfl
  | w + 1, h => by
    unfold spn
    rw [spn_congr w (fun i j hi hj => h i j (by omega) (by omega)), h (w + 1) 0 (by omega) (by omega), h 0 (w + 1) (by omega) (by omega)]
section X35
variable {B n : Nat} {wa : Nat → Nat} {σ : Sg} {A : AS}
theorem spn_R {d : Nat → Int} (hd : Bs d) : ∀ w : Nat, -6000 * w ≤ spn (mat d) w ∧ spn (mat d) w ≤ 6000 * w
  | 0 => by simp [spn]
  | w + 1 => by
    have h1 := spn_R hd w
    have h2 := hd ((w + 1) * 9 + 0)
    have h3 := hd (0 * 9 + (w + 1))
    unfold spn mat
    unfold mat at h1
    omega
theorem net_wholeSpan {a g w : Nat} {d : Nat → Int} (h : NetAt σ a g (w + 1) d) (hw : w ≤ 8) (hd : Bs d) (hn : 100000 ≤ n) : mX4_wholeSpan n σ a = some (iI (spn (mat d) w), σ) := by
  unfold mX4_wholeSpan
  have L : loopM (mX4_wholeSpan_L4 n a) n (σ, (0 : Int32), (1 : Int32)) = some (σ, iI (spn (mat d) w)) := by
    have e0 : (σ, (0 : Int32), (1 : Int32)) = (fun t : Nat => (σ, iI (spn (mat d) t), iI ((t + 1 : Nat) : Int))) 0 := rfl
    rw [e0]
    refine loop_run (fun t : Nat => (σ, iI (spn (mat d) t), iI ((t + 1 : Nat) : Int))) w 0 (fun t _ ht => ?_) ?_ n (by omega)
    · have e1 := net_least (n := n) h (show w + 1 ≤ 9 by omega) (i := t + 1) (j := 0) (by omega) (by omega)
      have e2 := net_least (n := n) h (show w + 1 ≤ 9 by omega) (i := 0) (j := t + 1) (by omega) (by omega)
      have e3 : (0 : Int32) = iI ((0 : Nat) : Int) := rfl
      simp only [mX4_wholeSpan_L4, gI_ok h.1 (show 1 < 2 by omega) h.2.2.2.2.1, Option.bind_some, e3, e1, e2, nm, iI_add, iI_sub, iI_1]
      rw [if_neg (by rw [iI_le (by omega) (by omega)]; omega)]
      have e4 : spn (mat d) (t + 1) = spn (mat d) t - (d ((t + 1) * 9 + 0) + d (0 * 9 + (t + 1))) := by
        show spn (mat d) t + (-d ((t + 1) * 9 + 0) - d (0 * 9 + (t + 1))) = _
        omega
      rw [e4]; rfl
    · simp only [Nat.zero_add, mX4_wholeSpan_L4, gI_ok h.1 (show 1 < 2 by omega) h.2.2.2.2.1, Option.bind_some]
      rw [if_pos (by rw [iI_le (by omega) (by omega)]; omega)]
  simp only [isO_ok h.1, Option.bind_some, L]
def FSpan (A : AS) (X : Nat → Nat → Int) (r : Int) : Prop := r = spn X (wn A)
theorem x_span (h : St B wa σ A) (x : Int32) (hn : 100000 ≤ n) : ∃ r σ', mX9_span n σ B x = some (iI r, σ') ∧ St B wa σ' A ∧ Fr B σ σ' ∧ Qry A x (-1) (FSpan A) r := by
  obtain ⟨hC, hS, hA⟩ := id h
  have h8 := hA.2.2.1.1
  unfold mX9_span
  simp only [hC.o, Option.bind_some]
  refine qry_step (n := n) h x hn (no := -1) (F := FSpan A) (fun s => rfl) (fun d p e hN hB hd => ?_)
  have hNd := dn_net hC (d := d) hN
  have hC' := (h.dn hd).1
  simp only [if_neg (show ¬ (1 : Int32) = 0 by decide), hC'.r11, Option.bind_some, net_wholeSpan hNd h8 hd hn]
  exact ⟨_, _, rfl, h.dn hd, dn_fr d, rfl⟩
/-- the ticks from a walk's start to its end -/
def wend (w : Wk) : Int := wpace w * wlast w
theorem w_end {q : Nat} {w : Wk} (h : WalkAt σ q w) : mX8_ticksToEnd n σ q = some (iI (wend w), σ) := w_ticksToEnd h
theorem wend_R {w : Wk} (hw : WWf A w) : 0 ≤ wend w ∧ wend w ≤ 540 := by
  have h2 := hw.1
  have h3 := hw.2.1
  have h4 := hw.2.2.2.1
  unfold wend
  rcases (show wpace w = 1 ∨ wpace w = 2 ∨ wpace w = 3 ∨ wpace w = 4 ∨ wpace w = 5 ∨ wpace w = 6 ∨ wpace w = 7 ∨ wpace w = 8 ∨ wpace w = 9 by omega) with e | e | e | e | e | e | e | e | e <;> rw [e] <;> omega
def FOne (A : AS) (a b : Int) (X : Nat → Nat → Int) (r : Int) : Prop :=
  r = if wboot (wk A a.toNat) = wboot (wk A b.toNat) then (if wend (wk A a.toNat) < -X (b.toNat + 1) (a.toNat + 1) then 1 else 0) + (if wend (wk A b.toNat) < -X (a.toNat + 1) (b.toNat + 1) then 2 else 0) else 0
theorem x_one (h : St B wa σ A) (x : Int32) {a b : Int} (ha : RI a) (hb : RI b) (hn : 100000 ≤ n) : ∃ r σ', mX9_one n σ B x (iI a) (iI b) = some (iI r, σ') ∧ St B wa σ' A ∧ Fr B σ σ' ∧ Two (isW A a ∧ isW A b ∧ a ≠ b) (-1) (Qry A x (-1) (FOne A a b)) r := by
  obtain ⟨hC, hS, hA⟩ := id h
  have h8 := hA.2.2.1.1
  unfold mX9_one
  simp only [hC.o, Option.bind_some, x_walkOf hC hA ha, x_walkOf hC hA hb]
  by_cases c2 : 0 ≤ a ∧ a < wn A
  · simp only [if_pos c2, x_walkOf hC hA hb, Option.bind_some]
    by_cases c3 : 0 ≤ b ∧ b < wn A
    · simp only [if_pos c3]
      by_cases c4 : a = b
      · rw [if_pos (by rw [c4])]
        exact ⟨-1, σ, rfl, h, Fr.refl B σ, Or.inl ⟨fun q => q.2.2 c4, rfl⟩⟩
      · rw [if_neg (fun q => c4 ((c_eq ha hb).mp q))]
        obtain ⟨v, v1, v2, v3⟩ := isW.nat c2
        obtain ⟨w, w1, w2, w3⟩ := isW.nat c3
        suffices hh : ∃ r σ', _ ∧ St B wa σ' A ∧ Fr B σ σ' ∧ Qry A x (-1) (FOne A a b) r by
          obtain ⟨r, σ', q1, q2, q3, q4⟩ := hh
          exact ⟨r, σ', q1, q2, q3, Or.inr ⟨⟨c2, c3, c4⟩, q4⟩⟩
        refine qry_step (n := n) h x hn (no := -1) (F := FOne A a b) (fun s => rfl) (fun d p e hN hB hd => ?_)
        have hNd := dn_net hC (d := d) hN
        have hC' := (h.dn hd).1
        have hWa := hC'.walkAt v1
        have hWb := hC'.walkAt w1
        have ea := wend_R (hA.2.2.1.2 v v1)
        have eb := wend_R (hA.2.2.1.2 w w1)
        have wa' := (hA.2.2.1.2 v v1).2.2.1
        have wb' := (hA.2.2.1.2 w w1).2.2.1
        have b1 := hd ((w + 1) * 9 + (v + 1))
        have b2 := hd ((v + 1) * 9 + (w + 1))
        have m1 : mat d (w + 1) (v + 1) = d ((w + 1) * 9 + (v + 1)) := rfl
        have m2 : mat d (v + 1) (w + 1) = d ((v + 1) * 9 + (w + 1)) := rfl
        refine ⟨_, dn B σ A d, ?_, h.dn hd, dn_fr d, rfl⟩
        simp only [if_neg (show ¬ (1 : Int32) = 0 by decide), v3, w3, gI_ok hWa.1.1 (show 1 < 9 by omega) hWa.2.1.2.1, gI_ok hWb.1.1 (show 1 < 9 by omega) hWb.2.1.2.1, Option.bind_some]
        by_cases c5 : wboot (wk A v) = wboot (wk A w)
        · rw [if_pos (by rw [c5]), if_pos c5]
          simp only [hC'.r11, Option.bind_some, v2, w2, net_greatestGap hNd (show wn A + 1 ≤ 9 by omega) (show v + 1 < wn A + 1 by omega) (show w + 1 < wn A + 1 by omega), w_end hWa]
          have ra : RI (wend (wk A v)) := RI.sm (by omega) (by omega)
          have rb : RI (wend (wk A w)) := RI.sm (by omega) (by omega)
          have r1 : RI (-mat d (w + 1) (v + 1)) := RI.sm (by omega) (by omega)
          have r2 : RI (-mat d (v + 1) (w + 1)) := RI.sm (by omega) (by omega)
          have second : ∀ t : Int, mX9_one_76 n (dn B σ A d) (iI t) B (iI v) (iI w) (wa w) = some (iI (t + (if wend (wk A w) < -mat d (v + 1) (w + 1) then 2 else 0)), dn B σ A d) := by
            intro t
            simp only [mX9_one_76, hC'.r11, Option.bind_some, net_greatestGap hNd (show wn A + 1 ≤ 9 by omega) (show w + 1 < wn A + 1 by omega) (show v + 1 < wn A + 1 by omega), w_end hWb, mX9_one_100]
            by_cases c7 : wend (wk A w) < -mat d (v + 1) (w + 1)
            · rw [if_pos c7, if_neg (fun q => by have := (c_le r2 rb).mp q; omega), iI_lit, iI_add]; rfl
            · rw [if_neg c7, if_pos ((c_le r2 rb).mpr (by omega)), iI_lit, iI_add]; rfl
          by_cases c6 : wend (wk A v) < -mat d (w + 1) (v + 1)
          · rw [if_pos c6, if_neg (fun q => by have := (c_le r1 ra).mp q; omega), iI_1, second]
          · rw [if_neg c6, if_pos ((c_le r1 ra).mpr (by omega)), iI_0, second]
        · rw [if_neg c5, if_neg (fun q => c5 (by have := (c_eq (RI.sm (by omega) (by omega)) (RI.sm (by omega) (by omega))).mp q; omega))]; rfl
    · simp only [if_neg c3]
      exact ⟨-1, σ, rfl, h, Fr.refl B σ, Or.inl ⟨fun q => c3 q.2.1, rfl⟩⟩
  · simp only [if_neg c2, x_walkOf hC hA hb, Option.bind_some]
    refine ⟨-1, σ, ?_, h, Fr.refl B σ, Or.inl ⟨fun q => c2 q.1, rfl⟩⟩
    by_cases c3 : 0 ≤ b ∧ b < wn A
    · simp only [if_pos c3]; rfl
    · simp only [if_neg c3]; rfl
/-- how many pairs of moments of a walk v and a walk w, in one cell then, with the ticks between lo and hi -/
def mtc (v w : Wk) (lo hi : Int) (i j : Nat) : Int := if lo ≤ wpace v * i - wpace w * j ∧ wpace v * i - wpace w * j ≤ hi ∧ wcell v i = wcell w j then 1 else 0
def FMeets (A : AS) (a b : Int) (X : Nat → Nat → Int) (r : Int) : Prop :=
  r = sm (fun i => sm (fun j => mtc (wk A a.toNat) (wk A b.toNat) (X (a.toNat + 1) (b.toNat + 1)) (-X (b.toNat + 1) (a.toNat + 1)) i j) (wlast (wk A b.toNat) + 1)) (wlast (wk A a.toNat) + 1)
theorem mtc_R (v w : Wk) (lo hi : Int) (i j : Nat) : 0 ≤ mtc v w lo hi i j ∧ mtc v w lo hi i j ≤ 1 := by
  unfold mtc
  split <;> omega
theorem pace9 {w : Wk} (hw : WWf A w) {i : Nat} (hi : i ≤ 61) : 0 ≤ (wpace w : Int) * i ∧ (wpace w : Int) * i ≤ 549 := by
  have h2 := hw.1
  have h3 := hw.2.1
  rcases (show wpace w = 1 ∨ wpace w = 2 ∨ wpace w = 3 ∨ wpace w = 4 ∨ wpace w = 5 ∨ wpace w = 6 ∨ wpace w = 7 ∨ wpace w = 8 ∨ wpace w = 9 by omega) with e | e | e | e | e | e | e | e | e <;> rw [e] <;> omega
theorem cell256 {w : Wk} (hA : Wf A) (hw : WWf A w) {i : Nat} (hi : i ≤ wlast w) : wcell w i < 256 := by
  have h1 := hw.2.2.2.2.2 i hi
  have h2 := hA.1
  omega
theorem meets_inner {q r i : Nat} {v w : Wk} {lo hi c : Int} (hA : Wf A) (hv : WalkAt σ q v) (hw : WalkAt σ r w) (fv : WWf A v) (fw : WWf A w) (hlo : -3000 ≤ lo ∧ lo ≤ 3000) (hhi : -3000 ≤ hi ∧ hi ≤ 3000) (hi9 : i ≤ wlast v) (hn : 100000 ≤ n) : loopM (mX9_meets_L80 n q r (iI lo) (iI hi) (iI i)) n (σ, iI c, (0 : Int32)) = some (σ, iI (c + sm (fun j => mtc v w lo hi i j) (wlast w + 1))) := by
  have l1 := fv.2.2.2.1
  have l2 := fw.2.2.2.1
  have e0 : (σ, iI c, (0 : Int32)) = (fun t : Nat => (σ, iI (c + sm (fun j => mtc v w lo hi i j) t), iI (t : Int))) 0 := by
    show _ = (σ, iI (c + 0), _)
    rw [Int.add_zero]; rfl
  rw [e0]
  refine loop_run (fun t : Nat => (σ, iI (c + sm (fun j => mtc v w lo hi i j) t), iI (t : Int))) (wlast w + 1) 0 (fun t _ ht => ?_) ?_ n (by omega)
  · have p1 := pace9 fv (i := i) (by omega)
    have p2 := pace9 fw (i := t) (by omega)
    have rl : RI lo := RI.sm (by omega) (by omega)
    have rh : RI hi := RI.sm (by omega) (by omega)
    have rd : RI ((wpace v : Int) * i - wpace w * t) := RI.sm (by omega) (by omega)
    have step : ∀ z : Int, mX9_meets_155 n σ q r (iI lo) (iI hi) (iI z) (iI i) (iI t) = some (.inl (σ, iI z, iI ((t + 1 : Nat) : Int))) := fun z => by
      simp only [mX9_meets_155, iI_1, iI_add]; rfl
    have e1 : ∀ z, c + sm (fun j => mtc v w lo hi i j) (t + 1) = c + sm (fun j => mtc v w lo hi i j) t + z ↔ mtc v w lo hi i t = z := fun z => by
      show c + (sm (fun j => mtc v w lo hi i j) t + mtc v w lo hi i t) = _ ↔ _
      omega
    simp only [mX9_meets_L80, gI_ok hw.1.1 (show 6 < 9 by omega) hw.2.1.2.2.2.2.2.2.1, gI_ok hv.1.1 (show 0 < 9 by omega) hv.2.1.1, gI_ok hw.1.1 (show 0 < 9 by omega) hw.2.1.1, Option.bind_some, iI_mul, iI_sub, nm]
    rw [if_neg (fun z => by have := (c_lt (RI.sm (by omega) (by omega)) (RI.sm (by omega) (by omega))).mp z; omega)]
    have out : mtc v w lo hi i t = 0 → mX9_meets_127 n σ q r (iI lo) (iI hi) (iI (c + sm (fun j => mtc v w lo hi i j) t)) (iI i) (iI t) = some (.inl (σ, iI (c + sm (fun j => mtc v w lo hi i j) (t + 1)), iI ((t + 1 : Nat) : Int))) := fun z => by
      simp only [mX9_meets_127, mX9_meets_128, if_pos, step]
      rw [(e1 0).mpr z, Int.add_zero]
    by_cases d1 : (wpace v : Int) * i - wpace w * t < lo
    · rw [if_pos ((c_lt rd rl).mpr d1), out (by unfold mtc; rw [if_neg (by omega)])]
    · rw [if_neg (fun z => d1 ((c_lt rd rl).mp z))]
      by_cases d2 : hi < (wpace v : Int) * i - wpace w * t
      · rw [if_pos ((c_lt rh rd).mpr d2), out (by unfold mtc; rw [if_neg (by omega)])]
      · rw [if_neg (fun z => d2 ((c_lt rh rd).mp z))]
        have ci : cOf v i = (wcell v i : Int) := by unfold cOf; rw [if_pos (by omega)]; rfl
        have ct : cOf w t = (wcell w t : Int) := by unfold cOf; rw [if_pos (by omega)]; rfl
        have k1 := cell256 hA fv hi9
        have k2 := cell256 hA fw (show t ≤ wlast w by omega)
        simp only [mX9_meets_128, if_neg (show ¬ (1 : Int32) = 0 by decide), w_cellOf hv l1 (show RI (i : Int) from RI.sm (by omega) (by omega)), w_cellOf hw l2 (show RI (t : Int) from RI.sm (by omega) (by omega)), Option.bind_some, ci, ct]
        by_cases d3 : wcell v i = wcell w t
        · rw [if_pos (by rw [d3]), iI_1, iI_add, step, ← (e1 1).mpr (by unfold mtc; rw [if_pos ⟨by omega, by omega, d3⟩])]
        · rw [if_neg (fun z => d3 (by have := (c_eq (RI.sm (by omega) (by omega)) (RI.sm (by omega) (by omega))).mp z; omega)), step, (e1 0).mpr (by unfold mtc; rw [if_neg (fun z => d3 z.2.2)]), Int.add_zero]
  · simp only [Nat.zero_add, mX9_meets_L80, gI_ok hw.1.1 (show 6 < 9 by omega) hw.2.1.2.2.2.2.2.2.1, Option.bind_some]
    rw [if_pos ((c_lt (RI.sm (by omega) (by omega)) (RI.sm (by omega) (by omega))).mpr (by omega))]
theorem x_meets (h : St B wa σ A) (x : Int32) {a b : Int} (ha : RI a) (hb : RI b) (hn : 100000 ≤ n) : ∃ r σ', mX9_meets n σ B x (iI a) (iI b) = some (iI r, σ') ∧ St B wa σ' A ∧ Fr B σ σ' ∧ Two (isW A a ∧ isW A b ∧ a ≠ b) (-1) (Qry A x (-1) (FMeets A a b)) r := by
  obtain ⟨hC, hS, hA⟩ := id h
  have h8 := hA.2.2.1.1
  unfold mX9_meets
  simp only [hC.o, Option.bind_some, x_walkOf hC hA ha, x_walkOf hC hA hb]
  by_cases c2 : 0 ≤ a ∧ a < wn A
  · simp only [if_pos c2, x_walkOf hC hA hb, Option.bind_some]
    by_cases c3 : 0 ≤ b ∧ b < wn A
    · simp only [if_pos c3]
      by_cases c4 : a = b
      · rw [if_pos (by rw [c4])]
        exact ⟨-1, σ, rfl, h, Fr.refl B σ, Or.inl ⟨fun q => q.2.2 c4, rfl⟩⟩
      · rw [if_neg (fun q => c4 ((c_eq ha hb).mp q))]
        obtain ⟨v, v1, v2, v3⟩ := isW.nat c2
        obtain ⟨w, w1, w2, w3⟩ := isW.nat c3
        suffices hh : ∃ r σ', _ ∧ St B wa σ' A ∧ Fr B σ σ' ∧ Qry A x (-1) (FMeets A a b) r by
          obtain ⟨r, σ', q1, q2, q3, q4⟩ := hh
          exact ⟨r, σ', q1, q2, q3, Or.inr ⟨⟨c2, c3, c4⟩, q4⟩⟩
        refine qry_step (n := n) h x hn (no := -1) (F := FMeets A a b) (fun s => rfl) (fun d p e hN hB hd => ?_)
        have hNd := dn_net hC (d := d) hN
        have hC' := (h.dn hd).1
        have hWa := hC'.walkAt v1
        have hWb := hC'.walkAt w1
        have fa := hA.2.2.1.2 v v1
        have fb := hA.2.2.1.2 w w1
        have la := fa.2.2.2.1
        have b1 := hd ((w + 1) * 9 + (v + 1))
        have b2 := hd ((v + 1) * 9 + (w + 1))
        have m1 : mat d (w + 1) (v + 1) = d ((w + 1) * 9 + (v + 1)) := rfl
        have m2 : mat d (v + 1) (w + 1) = d ((v + 1) * 9 + (w + 1)) := rfl
        have L : loopM (mX9_meets_L67 n (wa v) (wa w) (iI (mat d (v + 1) (w + 1))) (iI (-mat d (w + 1) (v + 1)))) n (dn B σ A d, (0 : Int32), (0 : Int32)) = some (dn B σ A d, iI (sm (fun i => sm (fun j => mtc (wk A v) (wk A w) (mat d (v + 1) (w + 1)) (-mat d (w + 1) (v + 1)) i j) (wlast (wk A w) + 1)) (wlast (wk A v) + 1))) := by
          have e0 : (dn B σ A d, (0 : Int32), (0 : Int32)) = (fun t : Nat => (dn B σ A d, iI (sm (fun i => sm (fun j => mtc (wk A v) (wk A w) (mat d (v + 1) (w + 1)) (-mat d (w + 1) (v + 1)) i j) (wlast (wk A w) + 1)) t), iI (t : Int))) 0 := rfl
          rw [e0]
          refine loop_run (fun t : Nat => (dn B σ A d, iI (sm (fun i => sm (fun j => mtc (wk A v) (wk A w) (mat d (v + 1) (w + 1)) (-mat d (w + 1) (v + 1)) i j) (wlast (wk A w) + 1)) t), iI (t : Int))) (wlast (wk A v) + 1) 0 (fun t _ ht => ?_) ?_ n (by omega)
          · simp only [mX9_meets_L67, gI_ok hWa.1.1 (show 6 < 9 by omega) hWa.2.1.2.2.2.2.2.2.1, Option.bind_some, meets_inner (n := n) hA hWa hWb fa fb (lo := mat d (v + 1) (w + 1)) (hi := -mat d (w + 1) (v + 1)) (by omega) (by omega) (show t ≤ wlast (wk A v) by omega) hn, iI_1, iI_add]
            rw [if_neg (fun z => by have := (c_lt (RI.sm (by omega) (by omega)) (RI.sm (by omega) (by omega))).mp z; omega)]
            rfl
          · simp only [Nat.zero_add, mX9_meets_L67, gI_ok hWa.1.1 (show 6 < 9 by omega) hWa.2.1.2.2.2.2.2.2.1, Option.bind_some]
            rw [if_pos ((c_lt (RI.sm (by omega) (by omega)) (RI.sm (by omega) (by omega))).mpr (by omega))]
        refine ⟨_, dn B σ A d, ?_, h.dn hd, dn_fr d, rfl⟩
        simp only [if_neg (show ¬ (1 : Int32) = 0 by decide), v3, w3, hC'.r11, Option.bind_some, v2, w2, net_leastGap hNd (show wn A + 1 ≤ 9 by omega) (show v + 1 < wn A + 1 by omega) (show w + 1 < wn A + 1 by omega), net_greatestGap hNd (show wn A + 1 ≤ 9 by omega) (show v + 1 < wn A + 1 by omega) (show w + 1 < wn A + 1 by omega)]
        rw [show ((v : Int)).toNat = v by omega, show ((w : Int)).toNat = w by omega]
        simp only [L, Option.bind_some]
    · simp only [if_neg c3]
      exact ⟨-1, σ, rfl, h, Fr.refl B σ, Or.inl ⟨fun q => c3 q.2.1, rfl⟩⟩
  · simp only [if_neg c2, x_walkOf hC hA hb, Option.bind_some]
    refine ⟨-1, σ, ?_, h, Fr.refl B σ, Or.inl ⟨fun q => c2 q.1, rfl⟩⟩
    by_cases c3 : 0 ≤ b ∧ b < wn A
    · simp only [if_pos c3]; rfl
    · simp only [if_neg c3]; rfl
end X35
