/-! ===== nets as least matrices ===== -/
def mat (d : Nat → Int) : Nat → Nat → Int := fun i j => d (i * 9 + j)
theorem adg_mat {p : Nat} {R : Nat → Nat → Int → Prop} {d : Nat → Int} (h : LM p R (mat d)) (hp : p ≤ 9) {o u : Nat} {r : Int} (ho : o < p) {i j : Nat} (hi : i < p) (hj : j < p) : adg p p d o u r (i * 9 + j) = max (mat d i j) (mat d i u + r + mat d o j) := by
  have h3 : mat d i o + mat d o j ≤ mat d i j := h.1.2.2 i o j hi ho hj
  unfold adg
  rw [show (i * 9 + j) / 9 = i by omega, show (i * 9 + j) % 9 = j by omega]
  simp only [mat] at h3 ⊢
  split <;> omega
theorem adg_out {p : Nat} {d : Nat → Int} {o u : Nat} {r : Int} {k : Nat} (hk : ¬ (k / 9 < p ∧ k % 9 < p)) : adg p p d o u r k = d k := by
  unfold adg
  rw [if_neg (by omega)]
/-- the gaps' contents: the least matrix above R, all numbers small -/
def NB (p : Nat) (day : Int) (R : Nat → Nat → Int → Prop) (d : Nat → Int) : Prop := LM p R (mat d) ∧ (∀ i j v, frR day i j v → R i j v) ∧ Bs d
theorem NB.mk {p : Nat} {day : Int} {R : Nat → Nat → Int → Prop} {d : Nat → Int} (h : LM p R (mat d)) (hR : ∀ i j v, frR day i j v → R i j v) (hd : 0 ≤ day ∧ day ≤ 2000) (ho : ∀ k, ¬ (k / 9 < p ∧ k % 9 < p) → -3000 ≤ d k ∧ d k ≤ 3000) : NB p day R d := by
  refine ⟨h, hR, fun k => ?_⟩
  by_cases c : k / 9 < p ∧ k % 9 < p
  · have h1 := h.1.within hR hd.1 c.1 c.2
    have e : mat d (k / 9) (k % 9) = d k := by
      show d (k / 9 * 9 + k % 9) = d k
      rw [show k / 9 * 9 + k % 9 = k by omega]
    rw [e] at h1
    omega
  · exact ho k c
theorem NB.add {p : Nat} {day : Int} {R : Nat → Nat → Int → Prop} {d : Nat → Int} (h : NB p day R d) (hd : 0 ≤ day ∧ day ≤ 2000) (hp : p ≤ 9) {o u : Nat} {r : Int} (ho : o < p) (hu : u < p) (hf : d (o * 9 + u) + r ≤ 0) : NB p day (arcR R u o r) (adg p p d o u r) := by
  refine NB.mk ?_ (fun i j v hr => Or.inl (h.2.1 i j v hr)) hd (fun k hk => by rw [adg_out hk]; exact h.2.2 k)
  refine (h.1.add ho hu (show mat d o u + r ≤ 0 from hf)).same (fun i j hi hj => ?_)
  show _ = adg p p d o u r (i * 9 + j)
  rw [adg_mat h.1 hp ho hi hj]
theorem net_takesGap' {σ : Sg} {a g n p o u : Nat} {r day : Int} {d : Nat → Int} {R : Nat → Nat → Int → Prop} (h : NetAt σ a g p d) (hB : NB p day R d) (ho : o < p) (hu : u < p) (hp : p ≤ 9) (hr : -100000000 ≤ r ∧ r ≤ 100000000) (hn : 100000 ≤ n) :
    mX4_takesGap n σ a (iI o) (iI u) (iI r) = some (if d (o * 9 + u) + r ≤ 0 then 1 else 0, if d (o * 9 + u) + r ≤ 0 then setA σ g (adg p p d o u r) else σ) :=
  net_takesGap h ho hu hp hB.2.2 (hB.1.1.1 o ho) (fun i hi => hB.1.1.2.2 i u o hi hu ho) hr hn
/-- a Fact at f -/
def FactAt (σ : Sg) (f : Nat) (who : Int) (o u : Nat) (lo hi : Int) : Prop := σ.2.1 f = some (2, 5) ∧ σ.2.2 f 0 = .int (iI who) ∧ σ.2.2 f 1 = .int (iI o) ∧ σ.2.2 f 2 = .int (iI u) ∧ σ.2.2 f 3 = .int (iI lo) ∧ σ.2.2 f 4 = .int (iI hi)
theorem FactAt.setA {σ : Sg} {f g : Nat} {who : Int} {o u : Nat} {lo hi : Int} {e : Nat → Int} (h : FactAt σ f who o u lo hi) (hg : f ≠ g) : FactAt (setA σ g e) f who o u lo hi := by
  obtain ⟨h1, h2, h3, h4, h5, h6⟩ := h
  refine ⟨h1, ?_, ?_, ?_, ?_, ?_⟩ <;> (rw [setA_ne _ _ hg]; assumption)
theorem net_takes {σ : Sg} {a g f n p o u : Nat} {who lo hi day : Int} {d : Nat → Int} {R : Nat → Nat → Int → Prop} (h : NetAt σ a g p d) (hF : FactAt σ f who o u lo hi) (hfg : f ≠ g) (hB : NB p day R d) (hd : 0 ≤ day ∧ day ≤ 2000) (ho : o < p) (hu : u < p) (hp : p ≤ 9) (hlo : -100000000 ≤ lo ∧ lo ≤ 100000000) (hhi : -100000000 ≤ hi ∧ hi ≤ 100000000) (hn : 100000 ≤ n) :
    ∃ d', Bs d' ∧ ((mX4_takes n σ a f = some (1, setA σ g d') ∧ NB p day (arcR (arcR R u o lo) o u (-hi)) d') ∨ (mX4_takes n σ a f = some (0, setA σ g d') ∧ ∀ Y, ¬ CM p (arcR (arcR R u o lo) o u (-hi)) Y)) := by
  obtain ⟨f1, f2, f3, f4, f5, f6⟩ := id hF
  by_cases c1 : d (o * 9 + u) + lo ≤ 0
  · have N := h.setA (e := adg p p d o u lo)
    have B1 := hB.add hd hp ho hu c1
    have F2 := hF.setA (e := adg p p d o u lo) hfg
    obtain ⟨q1, q2, q3, q4, q5, q6⟩ := F2
    by_cases c2 : adg p p d o u lo (u * 9 + o) + -hi ≤ 0
    · refine ⟨_, (B1.add hd hp hu ho c2).2.2, Or.inl ⟨?_, B1.add hd hp hu ho c2⟩⟩
      unfold mX4_takes
      simp only [isO_ok h.1, Option.bind_some, gI_ok f1 (show 1 < 5 by omega) f3, gI_ok f1 (show 2 < 5 by omega) f4, gI_ok f1 (show 3 < 5 by omega) f5, net_takesGap' h hB ho hu hp hlo hn, if_pos c1]
      rw [if_neg (by decide)]
      simp only [Option.bind_some, gI_ok q1 (show 1 < 5 by omega) q3, gI_ok q1 (show 2 < 5 by omega) q4, gI_ok q1 (show 4 < 5 by omega) q6, iI_neg, net_takesGap' N B1 hu ho hp (show -100000000 ≤ -hi ∧ -hi ≤ 100000000 by omega) hn, if_pos c2, setA_setA]
      rw [if_neg (by decide)]
    · refine ⟨_, B1.2.2, Or.inr ⟨?_, B1.1.bad hu ho (show 0 < mat (adg p p d o u lo) u o + -hi by show 0 < adg p p d o u lo (u * 9 + o) + -hi; omega)⟩⟩
      unfold mX4_takes
      simp only [isO_ok h.1, Option.bind_some, gI_ok f1 (show 1 < 5 by omega) f3, gI_ok f1 (show 2 < 5 by omega) f4, gI_ok f1 (show 3 < 5 by omega) f5, net_takesGap' h hB ho hu hp hlo hn, if_pos c1]
      rw [if_neg (by decide)]
      simp only [Option.bind_some, gI_ok q1 (show 1 < 5 by omega) q3, gI_ok q1 (show 2 < 5 by omega) q4, gI_ok q1 (show 4 < 5 by omega) q6, iI_neg, net_takesGap' N B1 hu ho hp (show -100000000 ≤ -hi ∧ -hi ≤ 100000000 by omega) hn, if_neg c2]
      rw [if_pos (by decide)]
  · refine ⟨d, hB.2.2, Or.inr ⟨?_, fun Y hY => hB.1.bad ho hu (show 0 < mat d o u + lo by show 0 < d (o * 9 + u) + lo; omega) Y (hY.mono (fun i j v _ _ hr => Or.inl hr))⟩⟩
    unfold mX4_takes
    simp only [isO_ok h.1, Option.bind_some, gI_ok f1 (show 1 < 5 by omega) f3, gI_ok f1 (show 2 < 5 by omega) f4, gI_ok f1 (show 3 < 5 by omega) f5, net_takesGap' h hB ho hu hp hlo hn, if_neg c1, setA_id h.2.2.2.2.2]
    rw [if_pos (by decide)]
/-! ===== clear ===== -/
def fv (day : Int) (i j : Nat) : Int := if i = j ∨ i = 0 then 0 else -day
def clr (t s p : Nat) (day : Int) (d : Nat → Int) : Nat → Int := fun k => if (k / 9 < t ∧ k % 9 < p) ∨ (k / 9 = t ∧ k % 9 < s) then fv day (k / 9) (k % 9) else d k
theorem clr_0 (p : Nat) (day : Int) (d : Nat → Int) : clr 0 0 p day d = d := by
  funext k
  unfold clr
  rw [if_neg (by omega)]
theorem clr_row (t p : Nat) (day : Int) (d : Nat → Int) : clr t p p day d = clr (t + 1) 0 p day d := by
  funext k
  simp only [clr]
  by_cases c : (k / 9 < t ∧ k % 9 < p) ∨ (k / 9 = t ∧ k % 9 < p)
  · rw [if_pos c, if_pos (Or.inl ⟨by omega, by omega⟩)]
  · rw [if_neg c, if_neg (by intro q; apply c; omega)]
theorem clr_succ {t s p : Nat} {day : Int} {d : Nat → Int} (hs : s < 9) : clr t (s + 1) p day d = updZ (clr t s p day d) (t * 9 + s) (fv day t s) := by
  funext k
  simp only [clr, updZ]
  by_cases hk : k = t * 9 + s
  · subst hk
    rw [if_pos (by omega), if_pos rfl, show (t * 9 + s) / 9 = t by omega, show (t * 9 + s) % 9 = s by omega]
  · rw [if_neg hk]
    by_cases c : (k / 9 < t ∧ k % 9 < p) ∨ (k / 9 = t ∧ k % 9 < s)
    · rw [if_pos c, if_pos (by omega)]
    · rw [if_neg c, if_neg (by omega)]
theorem clr_NB {p : Nat} {day : Int} {d : Nat → Int} (hp : p ≤ 9) (hd : 0 ≤ day ∧ day ≤ 2000) (hb : Bs d) : NB p day (frR day) (clr p 0 p day d) := by
  refine NB.mk ((LM.free p hd.1).same (fun i j hi hj => ?_)) (fun _ _ _ h => h) hd (fun k hk => ?_)
  · show fv day i j = clr p 0 p day d (i * 9 + j)
    unfold clr
    rw [show (i * 9 + j) / 9 = i by omega, show (i * 9 + j) % 9 = j by omega, if_pos (Or.inl ⟨hi, hj⟩)]
  · unfold clr
    rw [if_neg (by omega)]
    exact hb k
theorem NetAt.setP {σ : Sg} {a g p q : Nat} {d : Nat → Int} (h : NetAt σ a g p d) : NetAt (setF σ a 1 (.int (iI q))) a g q d := by
  obtain ⟨h1, h2, h3, h4, h5, h6⟩ := h
  exact ⟨h1, h2, h3, by rw [setF_k _ _ _ (by omega)]; exact h4, setF_self _ _ _ _, by rw [setF_ne _ _ _ (Ne.symm h3)]; exact h6⟩
theorem net_clear {σ : Sg} {a g n p w : Nat} {day : Int} {d : Nat → Int} (h : NetAt σ a g p d) (hw : w ≤ 8) (hd : 0 ≤ day ∧ day ≤ 2000) (hn : 100000 ≤ n) : mX4_clear n σ a (iI w) (iI day) = some (setA (setF σ a 1 (.int (iI (w + 1 : Nat)))) g (clr (w + 1) 0 (w + 1) day d)) := by
  have h0 := h.setP (q := w + 1)
  generalize hS : setF σ a 1 (.int (iI (w + 1 : Nat))) = S at h0
  unfold mX4_clear
  have e1 : jmin (iI (w : Int) + (1 : Int32)) (9 : Int32) = iI ((w + 1 : Nat) : Int) := by
    have e2 : iI (w : Int) + (1 : Int32) = iI ((w + 1 : Nat) : Int) := by rw [iI_1, iI_add]; rfl
    rw [e2, show (9 : Int32) = iI 9 from rfl]
    unfold jmin
    rw [if_neg (by rw [iI_lt (by omega) (by omega)]; omega)]
  rw [isO_ok h.1, e1]
  simp only [Option.bind_some, pV_ok h.1 (show 1 < 2 by omega), hS]
  have inner : ∀ t, t < w + 1 → loopM (mX4_clear_L25 n a (iI day) (iI t)) n (setA S g (clr t 0 (w + 1) day d), (0 : Int32)) = some (setA S g (clr (t + 1) 0 (w + 1) day d)) := by
    intro t ht
    have e0 : (setA S g (clr t 0 (w + 1) day d), (0 : Int32)) = (fun s : Nat => (setA S g (clr t s (w + 1) day d), iI s)) 0 := rfl
    rw [e0, ← clr_row]
    refine loop_run (fun s : Nat => (setA S g (clr t s (w + 1) day d), iI s)) (w + 1) 0 (fun s _ hs => ?_) ?_ n (by omega)
    · obtain ⟨n1, n2, n3, n4, n5, n6⟩ := h0.setA (e := clr t s (w + 1) day d)
      have r3 : ∀ v, sV 11 (setA S g (clr t s (w + 1) day d)) g (iI ((t : Int) * (9 : Nat) + s)) (.int (iI v)) = some (setA S g (updZ (clr t s (w + 1) day d) (t * 9 + s) v)) := by
        intro v
        rw [sV_ok n2 n6 (by omega) (by omega) (by omega), show ((t : Int) * (9 : Nat) + s).toNat = t * 9 + s by omega, setA_setA]
      simp only [mX4_clear_L25, gI_ok n1 (show 1 < 2 by omega) n5, gR_ok n1 (show 0 < 2 by omega) n4, Option.bind_some, iI_lit, iI_mul, iI_add]
      rw [if_neg (by rw [iI_le (by omega) (by omega)]; omega), clr_succ (by omega)]
      by_cases c1 : t = s
      · rw [if_pos (by rw [c1])]
        simp only [mX4_clear_55, mX4_clear_61, iI_lit, r3, Option.bind_some, iI_add]
        rw [show fv day t s = ((0 : Nat) : Int) by unfold fv; rw [if_pos (Or.inl c1)]; rfl]
        rfl
      · rw [if_neg (by rw [iI_eq (by omega) (by omega)]; omega)]
        by_cases c2 : t = 0
        · rw [if_pos (by rw [c2])]
          simp only [mX4_clear_55, mX4_clear_61, iI_lit, r3, Option.bind_some, iI_add]
          rw [show fv day t s = ((0 : Nat) : Int) by unfold fv; rw [if_pos (Or.inr c2)]; rfl]
          rfl
        · rw [if_neg (by rw [iI_eq (by omega) (by omega)]; omega)]
          simp only [mX4_clear_61, iI_neg, r3, Option.bind_some, iI_lit, iI_add]
          rw [show fv day t s = -day by unfold fv; rw [if_neg (by omega)]]
          rfl
    · obtain ⟨n1, n2, n3, n4, n5, n6⟩ := h0.setA (e := clr t (w + 1) (w + 1) day d)
      simp only [Nat.zero_add, mX4_clear_L25, gI_ok n1 (show 1 < 2 by omega) n5, Option.bind_some]
      rw [if_pos (by rw [iI_le (by omega) (by omega)]; omega)]
  have outer : loopM (mX4_clear_L14 n a (iI day)) n (S, (0 : Int32)) = some (setA S g (clr (w + 1) 0 (w + 1) day d)) := by
    have e0 : (S, (0 : Int32)) = (fun t : Nat => (setA S g (clr t 0 (w + 1) day d), iI t)) 0 := by
      simp only [clr_0, setA_id h0.2.2.2.2.2]; rfl
    rw [e0]
    refine loop_run (fun t : Nat => (setA S g (clr t 0 (w + 1) day d), iI t)) (w + 1) 0 (fun t _ ht => ?_) ?_ n (by omega)
    · obtain ⟨n1, n2, n3, n4, n5, n6⟩ := h0.setA (e := clr t 0 (w + 1) day d)
      simp only [mX4_clear_L14, gI_ok n1 (show 1 < 2 by omega) n5, Option.bind_some, inner t (by omega), iI_1, iI_add]
      rw [if_neg (by rw [iI_le (by omega) (by omega)]; omega)]; rfl
    · obtain ⟨n1, n2, n3, n4, n5, n6⟩ := h0.setA (e := clr (w + 1) 0 (w + 1) day d)
      simp only [Nat.zero_add, mX4_clear_L14, gI_ok n1 (show 1 < 2 by omega) n5, Option.bind_some]
      rw [if_pos (by rw [iI_le (by omega) (by omega)]; omega)]
  simp only [outer, Option.bind_some]
