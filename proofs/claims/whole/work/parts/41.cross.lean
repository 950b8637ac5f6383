/-! ===== crossings, top, judge ===== -/
theorem plc_grow (c : Nat → Nat) (l : Nat) : ∀ m, plc c (l + 1) m ≤ plc c l m + if c (l + 1) < m then 1 else 0
  | 0 => by simp [plc]
  | m + 1 => by
    have ih := plc_grow c l m
    have h1 : plc c (l + 1) (m + 1) = if lat c m (l + 1) = -1 then plc c (l + 1) m else plc c (l + 1) m + 1 := rfl
    have h2 : plc c l (m + 1) = if lat c m l = -1 then plc c l m else plc c l m + 1 := rfl
    have h3 : lat c m (l + 1) = if c (l + 1) = m ∧ ¬ c (l + 1) = c l then ((l + 1 : Nat) : Int) else lat c m l := rfl
    by_cases e : c (l + 1) = m
    · rw [if_pos (by omega)]
      rw [if_neg (by omega)] at ih
      split at h1 <;> split at h2 <;> omega
    · rw [if_neg (fun q => e q.1)] at h3
      rw [h3] at h1
      by_cases e2 : c (l + 1) < m
      · rw [if_pos e2] at ih
        rw [if_pos (by omega)]
        split at h1 <;> split at h2 <;> omega
      · rw [if_neg e2] at ih
        rw [if_neg (by omega)]
        split at h1 <;> split at h2 <;> omega
theorem plc_zero (c : Nat → Nat) : ∀ m, plc c 0 m ≤ if c 0 < m then 1 else 0
  | 0 => by simp [plc]
  | m + 1 => by
    have ih := plc_zero c m
    have h1 : plc c 0 (m + 1) = if lat c m 0 = -1 then plc c 0 m else plc c 0 m + 1 := rfl
    have h3 : lat c m 0 = if c 0 = m then 0 else -1 := rfl
    by_cases e : c 0 = m
    · rw [if_pos (by omega)]
      rw [if_neg (by omega)] at ih
      split at h1 <;> omega
    · rw [if_neg e] at h3
      rw [if_pos h3] at h1
      by_cases e2 : c 0 < m
      · rw [if_pos e2] at ih
        rw [if_pos (by omega)]; omega
      · rw [if_neg e2] at ih
        rw [if_neg (by omega)]; omega
theorem plc_few (c : Nat → Nat) (m : Nat) : ∀ l, plc c l m ≤ l + 1
  | 0 => by
    have := plc_zero c m
    split at this <;> omega
  | l + 1 => by
    have := plc_grow c l m
    have := plc_few c m l
    split at * <;> omega
section X41
variable {B n : Nat} {wa : Nat → Nat} {σ : Sg} {A : AS}
/-- both walks have prints in cell k -/
abbrev both (v w : Wk) (k : Nat) : Prop := lat (wcell v) k (wlast v) ≠ -1 ∧ lat (wcell w) k (wlast w) ≠ -1
/-- how many cells below k are crossings -/
def crn (v w : Wk) : Nat → Nat
  | 0 => 0
  | k + 1 => if both v w k then crn v w k + 1 else crn v w k
theorem crn_still (v w : Wk) (k : Nat) (h : lat (wcell v) k (wlast v) = -1) : crn v w (k + 1) = crn v w k := by
  conv => lhs; unfold crn
  rw [if_neg (fun q => q.1 h)]
theorem crn_le (v w : Wk) : ∀ k, crn v w k ≤ k
  | 0 => Nat.le_refl 0
  | k + 1 => by
    have := crn_le v w k
    unfold crn
    split <;> omega
def Crsg (v w : Wk) (i r : Int) : Prop := (i = -1 ∧ r = crn v w 256) ∨ (0 ≤ i ∧ ∃ k, k < 256 ∧ both v w k ∧ (crn v w k : Int) = i ∧ r = k) ∨ (0 ≤ i ∧ (crn v w 256 : Int) ≤ i ∧ r = -1) ∨ (i < -1 ∧ r = -1)
theorem lIn_nat (w : Wk) {k : Nat} (hk : k < 256) : lIn w k = lat (wcell w) k (wlast w) := by
  unfold lIn
  rw [if_pos (by omega)]; rfl
theorem cross_loop {q r : Nat} {v w : Wk} {i : Int} (hv : WalkAt σ q v) (hw : WalkAt σ r w) (lv : wlast v ≤ 60) (lw : wlast w ≤ 60) (hi : RI i) (hi2 : -1 ≤ i) (hn : 100000 ≤ n) :
    (loopM (mX9_crossings_L42 n (iI i) q r) n (σ, (0 : Int32), (0 : Int32)) = some (.inl (σ, iI (crn v w 256))) ∧ (0 ≤ i → (crn v w 256 : Int) ≤ i)) ∨ (∃ k, k < 256 ∧ both v w k ∧ (crn v w k : Int) = i ∧ loopM (mX9_crossings_L42 n (iI i) q r) n (σ, (0 : Int32), (0 : Int32)) = some (.inr (iI k, σ))) := by
  have hp := plc_few (wcell v) 256 (wlast v)
  have key := loop_inv (body := mX9_crossings_L42 n (iI i) q r) (fun c => ∃ (t f : Nat), t ≤ plc (wcell v) (wlast v) 256 ∧ c = (σ, iI f, iI t) ∧ (∀ k, plc (wcell v) (wlast v) k = t → crn v w k = f) ∧ (0 ≤ i → (f : Int) ≤ i) ∧ f ≤ t) (fun c => plc (wcell v) (wlast v) 256 - c.2.2.toNatClampNeg)
    (fun e => (e = .inl (σ, iI (crn v w 256)) ∧ (0 ≤ i → (crn v w 256 : Int) ≤ i)) ∨ ∃ k, k < 256 ∧ both v w k ∧ (crn v w k : Int) = i ∧ e = .inr (iI k, σ)) ?_ n (σ, (0 : Int32), (0 : Int32)) ⟨0, 0, Nat.zero_le _, rfl, fun k hk => plc_eq (crn v w) (crn_still v w) (k := 0) (j := k) hk.symm, fun h => h, Nat.le_refl 0⟩ (by show plc (wcell v) (wlast v) 256 - _ < n; omega)
  · obtain ⟨e, h1, h2⟩ := key
    rcases h2 with ⟨rfl, h3⟩ | ⟨k, k1, k2, k3, rfl⟩
    · exact Or.inl ⟨h1, h3⟩
    · exact Or.inr ⟨k, k1, k2, k3, h1⟩
  · rintro c ⟨t, f, ht, rfl, hc, hf, hft⟩
    have hz : (iI (t : Int)).toNatClampNeg = t := by rw [iI_clamp (by omega) (by omega)]; omega
    have hz1 : (iI ((t : Int) + 1)).toNatClampNeg = t + 1 := by rw [iI_clamp (by omega) (by omega)]; omega
    have rt : RI (t : Int) := RI.sm (by omega) (by omega)
    have rf : RI (f : Int) := RI.sm (by omega) (by omega)
    have rp : RI (plc (wcell v) (wlast v) 256 : Int) := RI.sm (by omega) (by omega)
    have pc : toI (gV 8 σ q 5) = some (iI (plc (wcell v) (wlast v) 256)) := gI_ok hv.1.1 (by omega) hv.2.1.2.2.2.2.2.1
    by_cases c0 : t = plc (wcell v) (wlast v) 256
    · refine Or.inr ⟨.inl (σ, iI (crn v w 256)), ?_, Or.inl ⟨rfl, by rw [hc 256 c0.symm]; exact hf⟩⟩
      simp only [mX9_crossings_L42, pc, Option.bind_some]
      rw [if_pos ((c_le rp rt).mpr (by omega)), hc 256 c0.symm]
    · obtain ⟨k, k1, k2, k3, k4, k5⟩ := w_place hv (by omega) (show t < plc (wcell v) (wlast v) 256 by omega)
      have rk : RI (k : Int) := RI.sm (by omega) (by omega)
      have hl := w_latestIn (n := n) hw rk
      rw [lIn_nat w k1] at hl
      have lr := lat_range (wcell w) k (wlast w)
      have rl : RI (lat (wcell w) k (wlast w)) := RI.sm (by omega) (by omega)
      have pk1 : plc (wcell v) (wlast v) (k + 1) = t + 1 := by
        conv => lhs; unfold plc
        rw [if_neg k2, k3]
      have ck : crn v w (k + 1) = if both v w k then f + 1 else f := by
        conv => lhs; unfold crn
        rw [hc k k3]
      have lev : ∀ j, plc (wcell v) (wlast v) j = t + 1 → crn v w j = if both v w k then f + 1 else f := fun j hj => by
        rw [← ck]; exact plc_eq (crn v w) (crn_still v w) (pk1.trans hj.symm)
      have base : mX9_crossings_L42 n (iI i) q r (σ, iI f, iI t) = if iI (lat (wcell w) k (wlast w)) = (-1 : Int32) then mX9_crossings_87 n σ (iI i) q r (iI f) (iI t) else if iI (f : Int) = iI i then some (.inr (.inr (iI k, σ))) else mX9_crossings_87 n σ (iI i) q r (iI f + (1 : Int32)) (iI t) := by
        simp only [mX9_crossings_L42, pc, k4, k5, Option.bind_some, hl]
        rw [if_neg (fun z => by have := (c_le rp rt).mp z; omega)]
      have down : plc (wcell v) (wlast v) 256 - (iI ((t : Int) + 1)).toNatClampNeg < plc (wcell v) (wlast v) 256 - (iI (t : Int)).toNatClampNeg := by rw [hz, hz1]; omega
      by_cases c1 : lat (wcell w) k (wlast w) = -1
      · refine Or.inl ⟨(σ, iI f, iI ((t : Int) + 1)), ?_, ⟨t + 1, f, by omega, rfl, fun j hj => by rw [lev j hj, if_neg (fun z => z.2 c1)], hf, by omega⟩, down⟩
        rw [base, if_pos ((c_eqm rl).mpr c1)]
        simp only [mX9_crossings_87, iI_1, iI_add]
      · have bk : both v w k := ⟨k2, c1⟩
        by_cases c2 : (f : Int) = i
        · refine Or.inr ⟨.inr (iI k, σ), ?_, Or.inr ⟨k, k1, bk, by rw [hc k k3]; exact c2, rfl⟩⟩
          rw [base, if_neg (fun z => c1 ((c_eqm rl).mp z)), if_pos ((c_eq rf hi).mpr c2)]
        · refine Or.inl ⟨(σ, iI ((f + 1 : Nat) : Int), iI ((t : Int) + 1)), ?_, ⟨t + 1, f + 1, by omega, rfl, fun j hj => by rw [lev j hj, if_pos bk], fun h0 => by have := hf h0; omega, by omega⟩, down⟩
          rw [base, if_neg (fun z => c1 ((c_eqm rl).mp z)), if_neg (fun z => c2 ((c_eq rf hi).mp z)), pt1]
          simp only [mX9_crossings_87, iI_1, iI_add]
theorem x_crossings (h : St B wa σ A) {a b i : Int} (ha : RI a) (hb : RI b) (hi : RI i) (hn : 100000 ≤ n) : ∃ r, mX9_crossings n σ B (iI a) (iI b) (iI i) = some (iI r, σ) ∧ Two (isW A a ∧ isW A b ∧ a ≠ b) (-1) (Crsg (wk A a.toNat) (wk A b.toNat) i) r := by
  obtain ⟨hC, hS, hA⟩ := id h
  have h8 := hA.2.2.1.1
  unfold mX9_crossings
  simp only [hC.o, Option.bind_some, x_walkOf hC hA ha, x_walkOf hC hA hb]
  by_cases c2 : 0 ≤ a ∧ a < wn A
  · simp only [if_pos c2, x_walkOf hC hA hb, Option.bind_some]
    by_cases c3 : 0 ≤ b ∧ b < wn A
    · simp only [if_pos c3]
      by_cases c4 : a = b
      · rw [if_pos (by rw [c4])]
        exact ⟨-1, rfl, Or.inl ⟨fun q => q.2.2 c4, rfl⟩⟩
      · rw [if_neg (fun q => c4 ((c_eq ha hb).mp q))]
        by_cases c5 : -1 ≤ i
        · rw [if_pos (by rw [iI_m1]; exact (c_le (by unfold RI; omega) hi).mpr c5)]
          have v1 : a.toNat < wn A := by omega
          have w1 : b.toNat < wn A := by omega
          rcases cross_loop (n := n) (hC.walkAt v1) (hC.walkAt w1) (hA.2.2.1.2 _ v1).2.2.2.1 (hA.2.2.1.2 _ w1).2.2.2.1 hi c5 hn with ⟨e1, e2⟩ | ⟨k, k1, k2, k3, e1⟩
          · simp only [e1, Option.bind_some]
            by_cases c6 : i = -1
            · rw [if_pos ((c_eqm hi).mpr c6)]
              exact ⟨_, rfl, Or.inr ⟨⟨c2, c3, c4⟩, Or.inl ⟨c6, rfl⟩⟩⟩
            · rw [if_neg (fun q => c6 ((c_eqm hi).mp q))]
              exact ⟨-1, rfl, Or.inr ⟨⟨c2, c3, c4⟩, Or.inr (Or.inr (Or.inl ⟨by omega, e2 (by omega), rfl⟩))⟩⟩
          · simp only [e1, Option.bind_some]
            exact ⟨_, rfl, Or.inr ⟨⟨c2, c3, c4⟩, Or.inr (Or.inl ⟨by omega, k, k1, k2, k3, rfl⟩)⟩⟩
        · rw [if_neg (fun q => c5 ((c_le (by unfold RI; omega) hi).mp (by rw [iI_m1] at q; exact q)))]
          exact ⟨-1, rfl, Or.inr ⟨⟨c2, c3, c4⟩, Or.inr (Or.inr (Or.inr ⟨by omega, rfl⟩))⟩⟩
    · simp only [if_neg c3]
      exact ⟨-1, rfl, Or.inl ⟨fun q => c3 q.2.1, rfl⟩⟩
  · simp only [if_neg c2, x_walkOf hC hA hb, Option.bind_some]
    refine ⟨-1, ?_, Or.inl ⟨fun q => c2 q.1, rfl⟩⟩
    by_cases c3 : 0 ≤ b ∧ b < wn A
    · simp only [if_pos c3]; rfl
    · simp only [if_neg c3]; rfl
theorem crn_mono (v w : Wk) {k j : Nat} (h : k ≤ j) : crn v w k ≤ crn v w j := by
  induction j with
  | zero => rw [show k = 0 by omega]; exact Nat.le_refl _
  | succ j ih =>
    by_cases e : k = j + 1
    · rw [e]; exact Nat.le_refl _
    · have := ih (by omega)
      conv => rhs; unfold crn
      split <;> omega
theorem crn_lt (v w : Wk) {k j : Nat} (h : k < j) (hb : both v w k) : crn v w k < crn v w j := by
  have h1 := crn_mono v w (show k + 1 ≤ j by omega)
  have h2 : crn v w (k + 1) = if both v w k then crn v w k + 1 else crn v w k := rfl
  rw [if_pos hb] at h2
  omega
theorem Crsg.unique {v w : Wk} {i r r' : Int} (h : Crsg v w i r) (h' : Crsg v w i r') : r = r' := by
  rcases h with ⟨a, b⟩ | ⟨a, k, k1, k2, k3, b⟩ | ⟨a, a2, b⟩ | ⟨a, b⟩ <;> rcases h' with ⟨c, d⟩ | ⟨c, j, j1, j2, j3, d⟩ | ⟨c, c2, d⟩ | ⟨c, d⟩ <;> try omega
  · rcases Nat.lt_trichotomy k j with e | e | e
    · have := crn_lt v w e k2; omega
    · omega
    · have := crn_lt v w e j2; omega
  · have := crn_lt v w k1 k2; omega
  · have := crn_lt v w j1 j2; omega
/-- the top walk at a cell, with its tick -/
def topP (A : AS) (c : Int) : Nat → Int × Int
  | 0 => (-1, -1)
  | k + 1 => if lIn (wk A k) c ≠ -1 ∧ (topP A c k).2 < wtold (wk A k) + mad (wk A k) c then (k, wtold (wk A k) + mad (wk A k) c) else topP A c k
theorem topP_R (hA : Wf A) (c : Int) : ∀ k, k ≤ wn A → -1 ≤ (topP A c k).1 ∧ (topP A c k).1 < k ∧ -1 ≤ (topP A c k).2 ∧ (topP A c k).2 ≤ 100000
  | 0, _ => by simp [topP]
  | k + 1, hk => by
    have ih := topP_R hA c k (by omega)
    have hw := hA.2.2.1.2 k (by omega)
    have m := mad_R A hw c
    have t := hw.2.2.2.2.1
    have d := hA.1.2.2.2.2
    unfold topP
    split
    · rename_i hq
      show -1 ≤ (k : Int) ∧ (k : Int) < (k + 1 : Nat) ∧ -1 ≤ wtold (wk A k) + mad (wk A k) c ∧ wtold (wk A k) + mad (wk A k) c ≤ 100000
      omega
    · omega
theorem x_top (h : RC B wa σ A) (hA : Wf A) {x y : Int} (hx : RI x) (hy : RI y) (hn : 100000 ≤ n) : mX9_top n σ B (iI x) (iI y) = some (iI (topP A (cAt A x y) (wn A)).1, σ) := by
  have h8 := hA.2.2.1.1
  have hc := cAt_RI A hA x y
  have rc : RI (cAt A x y) := RI.sm (by omega) (by omega)
  unfold mX9_top
  simp only [h.o, Option.bind_some, x_cellAt h hA hx hy]
  generalize cAt A x y = c at *
  have L : loopM (mX9_top_L16 n B (iI c)) n (σ, (-1 : Int32), (-1 : Int32), (0 : Int32)) = some (σ, iI (topP A c (wn A)).1) := by
    have e0 : (σ, (-1 : Int32), (-1 : Int32), (0 : Int32)) = (fun t : Nat => (σ, iI (topP A c t).1, iI (topP A c t).2, iI (t : Int))) 0 := rfl
    rw [e0]
    refine loop_run (fun t : Nat => (σ, iI (topP A c t).1, iI (topP A c t).2, iI (t : Int))) (wn A) 0 (fun t _ ht => ?_) ?_ n (by omega)
    · have rt : RI (t : Int) := RI.sm (by omega) (by omega)
      have hwt : t < wn A := by omega
      have hW := h.walkAt hwt
      have fW := hA.2.2.1.2 t hwt
      have hl := fW.2.2.2.1
      have hL := lIn_R (wk A t) c
      have rl : RI (lIn (wk A t) c) := RI.sm (by omega) (by omega)
      have mR := mad_R A fW c
      have tR := fW.2.2.2.2.1
      have dR := hA.1.2.2.2.2
      have pR := topP_R hA c t (by omega)
      have e2 : mX8_tickOf n σ (wa t) (iI (lIn (wk A t) c)) = some (iI (wtold (wk A t) + mad (wk A t) c), σ) := w_tickOf hW
      have sx : topP A c (t + 1) = if lIn (wk A t) c ≠ -1 ∧ (topP A c t).2 < wtold (wk A t) + mad (wk A t) c then ((t : Int), wtold (wk A t) + mad (wk A t) c) else topP A c t := rfl
      simp only [mX9_top_L16, h.qwn, h.r5, h.walk hA hwt, Option.bind_some, w_latestIn hW rc, e2]
      rw [if_neg (fun q => by have := (c_le (RI.sm (by omega) (by omega)) rt).mp q; omega)]
      by_cases c1 : lIn (wk A t) c = -1
      · rw [if_pos ((c_eqm rl).mpr c1)]
        rw [if_neg (fun q => q.1 c1)] at sx
        simp only [mX9_top_82, iI_1, iI_add, sx]; rfl
      · rw [if_neg (fun q => c1 ((c_eqm rl).mp q))]
        by_cases c2 : wtold (wk A t) + mad (wk A t) c ≤ (topP A c t).2
        · rw [if_pos ((c_le (RI.sm (by omega) (by omega)) (RI.sm (by omega) (by omega))).mpr c2)]
          rw [if_neg (fun q => by have := q.2; omega)] at sx
          simp only [mX9_top_82, iI_1, iI_add, sx]; rfl
        · rw [if_neg (fun q => c2 ((c_le (RI.sm (by omega) (by omega)) (RI.sm (by omega) (by omega))).mp q))]
          rw [if_pos ⟨c1, by omega⟩] at sx
          simp only [mX9_top_82, iI_1, iI_add, sx]; rfl
    · simp only [Nat.zero_add, mX9_top_L16, h.qwn, Option.bind_some]
      rw [if_pos ((c_le (RI.sm (by omega) (by omega)) (RI.sm (by omega) (by omega))).mpr (by omega))]
  simp only [L, Option.bind_some]
/-- the told start at a point -/
def stA (A : AS) (p : Nat) : Int := if 1 ≤ p ∧ p ≤ wn A then wtold (wk A (p - 1)) else 0
abbrev hld (A : AS) (f : Nat) : Prop := (fc A f).2.2.2.1 ≤ stA A (fc A f).2.1 - stA A (fc A f).2.2.1 ∧ stA A (fc A f).2.1 - stA A (fc A f).2.2.1 ≤ (fc A f).2.2.2.2
def Judge (A : AS) (x : Int32) (r : Int) : Prop := (∃ f, f < fn A ∧ bt (un x) f ∧ ¬ hld A f ∧ (∀ g, g < f → bt (un x) g → hld A g) ∧ r = f) ∨ ((∀ g, g < fn A → bt (un x) g → hld A g) ∧ r = -1)
theorem stA_R (hA : Wf A) (p : Nat) : 0 ≤ stA A p ∧ stA A p ≤ 2000 := by
  have dR := hA.1.2.2.2.2
  unfold stA
  split
  · rename_i hq
    have := (hA.2.2.1.2 (p - 1) (by omega)).2.2.2.2.1
    omega
  · omega
theorem x_startAt (h : RC B wa σ A) (hA : Wf A) {p : Nat} (hp : p ≤ wn A) : mX9_startAt n σ B (iI p) = some (iI (stA A p), σ) := by
  have h8 := hA.2.2.1.1
  unfold mX9_startAt stA
  simp only [h.o, Option.bind_some, iI_1, iI_sub, x_walkOf h hA (show RI ((p : Int) - 1) from RI.sm (by omega) (by omega))]
  by_cases c : 1 ≤ p ∧ p ≤ wn A
  · have e : 0 ≤ (p : Int) - 1 ∧ (p : Int) - 1 < wn A := by omega
    have hW := h.walkAt (w := p - 1) (by omega)
    simp only [if_pos e, if_pos c, show ((p : Int) - 1).toNat = p - 1 by omega, gI_ok hW.1.1 (show 8 < 9 by omega) hW.2.1.2.2.2.2.2.2.2.2, Option.bind_some]
  · have e : ¬ (0 ≤ (p : Int) - 1 ∧ (p : Int) - 1 < wn A) := by omega
    simp only [if_neg e, if_neg c]; rfl
theorem x_judge (h : RC B wa σ A) (hA : Wf A) (x : Int32) (hn : 100000 ≤ n) : ∃ r, mX9_judge n σ B x = some (iI r, σ) ∧ Two (un x < 2 ^ fn A) (-1) (Judge A x) r := by
  have hf20 := hA.2.2.2.1.1
  unfold mX9_judge
  simp only [h.o, Option.bind_some, x_isSet h hA x]
  by_cases c0 : un x < 2 ^ fn A
  · rw [if_pos c0, if_neg i10]
    have key := loop_inv (body := mX9_judge_L12 n B x) (fun c => ∃ t : Nat, t ≤ fn A ∧ c = (σ, iI t) ∧ ∀ g, g < t → bt (un x) g → hld A g) (fun c => fn A - c.2.toNatClampNeg)
      (fun e => (e = .inl σ ∧ ∀ g, g < fn A → bt (un x) g → hld A g) ∨ ∃ f, f < fn A ∧ bt (un x) f ∧ ¬ hld A f ∧ (∀ g, g < f → bt (un x) g → hld A g) ∧ e = .inr (iI f, σ)) ?_ n (σ, (0 : Int32)) ⟨0, by omega, rfl, fun g hg => by omega⟩ (by omega)
    · obtain ⟨e, h1, h2⟩ := key
      rw [h1]
      rcases h2 with ⟨rfl, h2⟩ | ⟨f, f1, f2, f3, f4, rfl⟩
      · exact ⟨-1, rfl, Or.inr ⟨c0, Or.inr ⟨h2, rfl⟩⟩⟩
      · exact ⟨f, rfl, Or.inr ⟨c0, Or.inl ⟨f, f1, f2, f3, f4, rfl⟩⟩⟩
    · rintro c ⟨t, ht, rfl, hg⟩
      have hz : (iI (t : Int)).toNatClampNeg = t := by rw [iI_clamp (by omega) (by omega)]; omega
      have hz1 : (iI ((t : Int) + 1)).toNatClampNeg = t + 1 := by rw [iI_clamp (by omega) (by omega)]; omega
      have rt : RI (t : Int) := RI.sm (by omega) (by omega)
      by_cases c1 : t = fn A
      · refine Or.inr ⟨.inl σ, ?_, Or.inl ⟨rfl, by rw [← c1]; exact hg⟩⟩
        simp only [mX9_judge_L12, h.qfn, Option.bind_some]
        rw [if_pos ((c_le (RI.sm (by omega) (by omega)) rt).mpr (by omega))]
      · have hF := h.factAt (k := t) (by omega)
        have hW := hA.2.2.2.1.2 t (by omega)
        have s1 := stA_R hA (fc A t).2.1
        have s2 := stA_R hA (fc A t).2.2.1
        obtain ⟨w1, w2, w3, w4, w5, w6, w7, w8, w9, w10⟩ := hW
        have down : fn A - (iI ((t : Int) + 1)).toNatClampNeg < fn A - (iI (t : Int)).toNatClampNeg := by rw [hz, hz1]; omega
        have go : ∀ r, mX9_judge_84 n σ B x (iI t) = r ↔ some (.inl (σ, iI ((t : Int) + 1))) = r := fun r => by
          simp only [mX9_judge_84, iI_1, iI_add]
        have base : mX9_judge_L12 n B x (σ, iI t) = if bt (un x) t then (if iI (stA A (fc A t).2.1 - stA A (fc A t).2.2.1) < iI (fc A t).2.2.2.1 then some (.inr (.inr (iI t, σ))) else if iI (stA A (fc A t).2.1 - stA A (fc A t).2.2.1) ≤ iI (fc A t).2.2.2.2 then mX9_judge_84 n σ B x (iI t) else some (.inr (.inr (iI t, σ)))) else mX9_judge_84 n σ B x (iI t) := by
          simp only [mX9_judge_L12, h.qfn, Option.bind_some, x_isIn x (show t < 32 by omega)]
          rw [if_neg (fun q => by have := (c_le (RI.sm (by omega) (by omega)) rt).mp q; omega)]
          by_cases cb : bt (un x) t
          · rw [if_pos cb, if_pos cb, if_neg i10]
            simp only [h.r7, h.fact (show t < 20 by omega), Option.bind_some, gI_ok hF.1 (show 1 < 5 by omega) hF.2.2.1, gI_ok hF.1 (show 2 < 5 by omega) hF.2.2.2.1, gI_ok hF.1 (show 3 < 5 by omega) hF.2.2.2.2.1, gI_ok hF.1 (show 4 < 5 by omega) hF.2.2.2.2.2, x_startAt h hA w3, x_startAt h hA w4, nm, iI_sub]
          · rw [if_neg cb, if_neg cb, if_pos i00]
        have rd : RI (stA A (fc A t).2.1 - stA A (fc A t).2.2.1) := RI.sm (by omega) (by omega)
        have r3 : RI (fc A t).2.2.2.1 := RI.sm (by omega) (by omega)
        have r4 : RI (fc A t).2.2.2.2 := RI.sm (by omega) (by omega)
        rw [base]
        by_cases cb : bt (un x) t
        · rw [if_pos cb]
          by_cases d1 : stA A (fc A t).2.1 - stA A (fc A t).2.2.1 < (fc A t).2.2.2.1
          · rw [if_pos ((c_lt rd r3).mpr d1)]
            exact Or.inr ⟨_, rfl, Or.inr ⟨t, by omega, cb, fun q => by have := q.1; omega, hg, rfl⟩⟩
          · rw [if_neg (fun q => d1 ((c_lt rd r3).mp q))]
            by_cases d2 : stA A (fc A t).2.1 - stA A (fc A t).2.2.1 ≤ (fc A t).2.2.2.2
            · rw [if_pos ((c_le rd r4).mpr d2)]
              refine Or.inl ⟨_, (go _).mpr rfl, ⟨t + 1, by omega, rfl, fun g hg2 hb => ?_⟩, down⟩
              by_cases e : g = t
              · rw [e]; exact ⟨by omega, d2⟩
              · exact hg g (by omega) hb
            · rw [if_neg (fun q => d2 ((c_le rd r4).mp q))]
              exact Or.inr ⟨_, rfl, Or.inr ⟨t, by omega, cb, fun q => d2 q.2, hg, rfl⟩⟩
        · rw [if_neg cb]
          refine Or.inl ⟨_, (go _).mpr rfl, ⟨t + 1, by omega, rfl, fun g hg2 hb => ?_⟩, down⟩
          by_cases e : g = t
          · rw [e] at hb; exact absurd hb cb
          · exact hg g (by omega) hb
  · rw [if_neg c0, if_pos i00]
    exact ⟨-1, rfl, Or.inl ⟨c0, rfl⟩⟩
end X41
