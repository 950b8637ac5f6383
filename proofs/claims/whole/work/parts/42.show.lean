/-! ===== what is shown ===== -/
def fil (m : Nat) (v : Int) (e : Nat → Int) : Nat → Int := fun k => if k < m then v else e k
theorem j_fill {σ : Sg} {a n m : Nat} {e : Nat → Int} {v : Int} (h : σ.2.1 a = some (11, m)) (he : σ.2.2 a = iz e) (hm : m < 10000) (hn : 100000 ≤ n) : mJ_fill n σ a (iI v) = some (setA σ a (fil m v e)) := by
  unfold mJ_fill
  rw [lenA_ok h]
  have L : loopM (mJ_fill_L5 n a (iI v) (iI m)) n (σ, (0 : Int32)) = some (setA σ a (fil m v e)) := by
    have e0 : (σ, (0 : Int32)) = (fun t : Nat => (setA σ a (fil t v e), iI (t : Int))) 0 := by
      have : fil 0 v e = e := by funext k; unfold fil; rw [if_neg (by omega)]
      simp only [this, setA_id he]; rfl
    rw [e0]
    refine loop_run (fun t : Nat => (setA σ a (fil t v e), iI (t : Int))) m 0 (fun t _ ht => ?_) ?_ n (by omega)
    · have hs : (setA σ a (fil t v e)).2.1 a = some (11, m) := h
      simp only [mJ_fill_L5]
      rw [if_neg (fun q => by have := (c_le (RI.sm (by omega) (by omega)) (RI.sm (by omega) (by omega))).mp q; omega), sV_ok hs (setA_self _ _ _) (by omega) (by omega) (by omega)]
      simp only [Option.bind_some, setA_setA, iI_1, iI_add]
      have : updZ (fil t v e) (t : Int).toNat v = fil (t + 1) v e := by
        funext k
        unfold updZ fil
        by_cases c : k = t
        · rw [if_pos (by omega), if_pos (by omega)]
        · rw [if_neg (by omega)]
          by_cases c2 : k < t
          · rw [if_pos c2, if_pos (by omega)]
          · rw [if_neg c2, if_neg (by omega)]
      rw [this]; rfl
    · simp only [Nat.zero_add, mJ_fill_L5]
      rw [if_pos ((c_le (RI.sm (by omega) (by omega)) (RI.sm (by omega) (by omega))).mpr (by omega))]
  simp only [Option.bind_some, L]
/-- the latest snow till a tick, of the first k -/
def cov (A : AS) (tick : Int) : Nat → Int
  | 0 => -1
  | k + 1 => if (sw A k : Int) ≤ tick ∧ cov A tick k < sw A k then sw A k else cov A tick k
theorem cov_R {A : AS} (hA : Wf A) (tick : Int) : ∀ k, k ≤ sn A → -1 ≤ cov A tick k ∧ cov A tick k ≤ 5000
  | 0, _ => by simp [cov]
  | k + 1, hk => by
    have := cov_R hA tick k (by omega)
    have := hA.2.2.2.2.2 k (by omega)
    unfold cov
    split <;> omega
/-- whether a walk's moment has a print -/
abbrev prt (w : Wk) (i : Nat) : Prop := i = 0 ∨ wcell w i ≠ wcell w (i - 1)
/-- what a moment of a walk changes in what is shown in a cell: walk, tick -/
def stp (A : AS) (tick cv : Int) (c w i : Nat) (p : Int × Int) : Int × Int := if prt (wk A w) i ∧ wcell (wk A w) i = c ∧ cv < wtold (wk A w) + wpace (wk A w) * (i : Int) ∧ (wtold (wk A w) + wpace (wk A w) * (i : Int) : Int) ≤ tick ∧ p.2 < wtold (wk A w) + wpace (wk A w) * (i : Int) then ((w : Int), wtold (wk A w) + wpace (wk A w) * (i : Int)) else p
def shM (A : AS) (tick cv : Int) (c w : Nat) (p : Int × Int) : Nat → Int × Int
  | 0 => p
  | i + 1 => stp A tick cv c w i (shM A tick cv c w p i)
def shP (A : AS) (tick cv : Int) (c : Nat) : Nat → Int × Int
  | 0 => (-1, -1)
  | w + 1 => shM A tick cv c w (shP A tick cv c w) (wlast (wk A w) + 1)
def cut (e : Nat → Int) (P : Nat → Int) : Nat → Int := fun c => if c < 256 then P c else e c
/-- the class's world with what is shown -/
def sh2 (B : Nat) (σ : Sg) (d1 d2 : Nat → Int) : Sg := (σ.1, σ.2.1, fun a => if a = B + 44 then iz d1 else if a = B + 45 then iz d2 else σ.2.2 a)
theorem sh2_44 {B : Nat} {σ : Sg} {d1 d2 : Nat → Int} : (sh2 B σ d1 d2).2.2 (B + 44) = iz d1 := by simp [sh2]
theorem sh2_45 {B : Nat} {σ : Sg} {d1 d2 : Nat → Int} : (sh2 B σ d1 d2).2.2 (B + 45) = iz d2 := by simp [sh2]
theorem sh2_ne {B : Nat} {σ : Sg} {d1 d2 : Nat → Int} {a : Nat} (h1 : a ≠ B + 44) (h2 : a ≠ B + 45) : (sh2 B σ d1 d2).2.2 a = σ.2.2 a := by simp [sh2, h1, h2]
theorem sh2_set1 {B : Nat} {σ : Sg} {d1 d2 e : Nat → Int} : setA (sh2 B σ d1 d2) (B + 44) e = sh2 B σ e d2 := by
  have : upA (sh2 B σ d1 d2).2.2 (B + 44) (iz e) = (sh2 B σ e d2).2.2 := by
    funext a
    simp only [upA, sh2]
    by_cases h : a = B + 44
    · rw [if_pos h, if_pos h]
    · rw [if_neg h, if_neg h, if_neg h]
  show ((sh2 B σ d1 d2).1, (sh2 B σ d1 d2).2.1, upA (sh2 B σ d1 d2).2.2 (B + 44) (iz e)) = _
  rw [this]; rfl
theorem sh2_set2 {B : Nat} {σ : Sg} {d1 d2 e : Nat → Int} : setA (sh2 B σ d1 d2) (B + 45) e = sh2 B σ d1 e := by
  have : upA (sh2 B σ d1 d2).2.2 (B + 45) (iz e) = (sh2 B σ d1 e).2.2 := by
    funext a
    simp only [upA, sh2]
    by_cases h : a = B + 45
    · rw [if_pos h, if_neg (show ¬ a = B + 44 by omega), if_pos h]
    · rw [if_neg h]
      by_cases h2 : a = B + 44
      · rw [if_pos h2, if_pos h2]
      · rw [if_neg h2, if_neg h2, if_neg h, if_neg h]
  show ((sh2 B σ d1 d2).1, (sh2 B σ d1 d2).2.1, upA (sh2 B σ d1 d2).2.2 (B + 45) (iz e)) = _
  rw [this]; rfl
theorem sh2_id {B : Nat} {σ : Sg} {d1 d2 : Nat → Int} (h1 : σ.2.2 (B + 44) = iz d1) (h2 : σ.2.2 (B + 45) = iz d2) : sh2 B σ d1 d2 = σ := by
  have : (fun a => if a = B + 44 then iz d1 else if a = B + 45 then iz d2 else σ.2.2 a) = σ.2.2 := by
    funext a
    by_cases h : a = B + 44
    · rw [if_pos h, h, h1]
    · rw [if_neg h]
      by_cases h' : a = B + 45
      · rw [if_pos h', h', h2]
      · rw [if_neg h']
  show (σ.1, σ.2.1, _) = σ
  rw [this]
theorem sh2_fr {B : Nat} {σ : Sg} {d1 d2 : Nat → Int} : Fr B σ (sh2 B σ d1 d2) := by
  refine ⟨rfl, rfl, fun a k hk => ?_⟩
  have h1 : a ≠ B + 44 := fun e => hk ⟨by omega, by omega, by rw [show a - B = 44 by omega]; rfl⟩
  have h2 : a ≠ B + 45 := fun e => hk ⟨by omega, by omega, by rw [show a - B = 45 by omega]; rfl⟩
  rw [sh2_ne h1 h2]
theorem upd_cut {e P : Nat → Int} {z : Nat} {v : Int} (hz : z < 256) : updZ (cut e P) z v = cut e (fun c => if c = z then v else P c) := by
  funext c
  simp only [updZ, cut]
  by_cases h : c = z
  · rw [if_pos h, if_pos (by omega), if_pos h]
  · rw [if_neg h]
    by_cases h2 : c < 256
    · rw [if_pos h2, if_pos h2, if_neg h]
    · rw [if_neg h2, if_neg h2]
section X42
variable {B n : Nat} {wa : Nat → Nat} {σ : Sg} {A : AS}
theorem RS.sh2 (h : RS B σ) {d1 d2 : Nat → Int} : RS B (sh2 B σ d1 d2) := by
  obtain ⟨h1, h2, h3, a1, a2, a3, a4, a5, a6, a7, a8, a9⟩ := h
  exact ⟨h1.same rfl (sh2_ne (by omega) (by omega)) (sh2_ne (by omega) (by omega)), fun k hk => (h2 k hk).same rfl (sh2_ne (by omega) (by omega)) (sh2_ne (by omega) (by omega)), fun k hk => (h3 k hk).same rfl (sh2_ne (by omega) (by omega)) (sh2_ne (by omega) (by omega)), a1.same (sh2_ne (by omega) (by omega)), a2.same (sh2_ne (by omega) (by omega)), a3.same (sh2_ne (by omega) (by omega)), a4.same (sh2_ne (by omega) (by omega)), ⟨d1, sh2_44⟩, ⟨d2, sh2_45⟩, a7.same (sh2_ne (by omega) (by omega)), a8.same (sh2_ne (by omega) (by omega)), a9.same (sh2_ne (by omega) (by omega))⟩
theorem St.sh2 (h : St B wa σ A) {d1 d2 : Nat → Int} : St B wa (sh2 B σ d1 d2) A := ⟨h.1.fr sh2_fr, h.2.1.sh2, h.2.2⟩
theorem x_latestSnow (h : RC B wa σ A) (hA : Wf A) {tick : Int} (ht : RI tick) (hn : 100000 ≤ n) : mX9_latestSnow n σ B (iI tick) = some (iI (cov A tick (sn A)), σ) := by
  have h8 := hA.2.2.2.2.1
  obtain ⟨e, m1, m2⟩ := h.2.2.2.2.2.2.2.1
  have s5 : σ.2.1 (B + 5) = some (11, 8) := h.sh 5 (by omega)
  unfold mX9_latestSnow
  have L : loopM (mX9_latestSnow_L4 n B (iI tick)) n (σ, (-1 : Int32), (0 : Int32)) = some (σ, iI (cov A tick (sn A))) := by
    have e0 : (σ, (-1 : Int32), (0 : Int32)) = (fun t : Nat => (σ, iI (cov A tick t), iI (t : Int))) 0 := rfl
    rw [e0]
    refine loop_run (fun t : Nat => (σ, iI (cov A tick t), iI (t : Int))) (sn A) 0 (fun t _ hq => ?_) ?_ n (by omega)
    · have rt : RI (t : Int) := RI.sm (by omega) (by omega)
      have r1 : toI (aV 11 σ (B + 5) (iI t)) = some (iI (sw A t)) := by
        rw [aI_ok s5 m1 (by omega) (by omega) (by omega), show ((t : Int)).toNat = t by omega, m2 t (by omega)]
      have b1 := hA.2.2.2.2.2 t (by omega)
      have b2 := cov_R hA tick t (by omega)
      have rs : RI (sw A t : Int) := RI.sm (by omega) (by omega)
      have rv : RI (cov A tick t) := RI.sm (by omega) (by omega)
      have sx : cov A tick (t + 1) = if (sw A t : Int) ≤ tick ∧ cov A tick t < sw A t then (sw A t : Int) else cov A tick t := rfl
      simp only [mX9_latestSnow_L4, h.qsn, h.r9, r1, Option.bind_some]
      rw [if_neg (fun q => by have := (c_le (RI.sm (by omega) (by omega)) rt).mp q; omega)]
      by_cases c1 : tick < sw A t
      · rw [if_pos ((c_lt ht rs).mpr c1)]
        rw [if_neg (fun q => by have := q.1; omega)] at sx
        simp only [mX9_latestSnow_39, iI_1, iI_add, sx]; rfl
      · rw [if_neg (fun q => c1 ((c_lt ht rs).mp q))]
        by_cases c2 : (sw A t : Int) ≤ cov A tick t
        · rw [if_pos ((c_le rs rv).mpr c2)]
          rw [if_neg (fun q => by have := q.2; omega)] at sx
          simp only [mX9_latestSnow_39, iI_1, iI_add, sx]; rfl
        · rw [if_neg (fun q => c2 ((c_le rs rv).mp q))]
          rw [if_pos (by omega)] at sx
          simp only [mX9_latestSnow_39, iI_1, iI_add, sx]; rfl
    · simp only [Nat.zero_add, mX9_latestSnow_L4, h.qsn, Option.bind_some]
      rw [if_pos ((c_le (RI.sm (by omega) (by omega)) (RI.sm (by omega) (by omega))).mpr (by omega))]
  simp only [h.o, L, Option.bind_some]
theorem w_isPrint {q i : Nat} {w : Wk} (h : WalkAt σ q w) (hA : Wf A) (hw : WWf A w) (hi : i ≤ wlast w) : mX8_isPrint n σ q (iI i) = some (if prt w i then 1 else 0, σ) := by
  have hl := hw.2.2.2.1
  have k1 := cell256 hA hw hi
  have ci : cOf w i = (wcell w i : Int) := by unfold cOf; rw [if_pos (by omega)]; rfl
  unfold mX8_isPrint
  simp only [isO_ok h.1.1, Option.bind_some, iI_1, iI_sub, w_cellOf h hl (show RI (i : Int) from RI.sm (by omega) (by omega)), w_cellOf h hl (show RI ((i : Int) - 1) from RI.sm (by omega) (by omega)), ci]
  by_cases c0 : i = 0
  · have cj : cOf w ((i : Int) - 1) = -1 := by unfold cOf; rw [if_neg (by omega)]
    rw [cj, if_neg (fun z => by have := (c_eq (RI.sm (by omega) (by omega)) (RI.sm (by omega) (by omega))).mp z; omega), if_pos (Or.inl c0)]
  · have k2 := cell256 hA hw (show i - 1 ≤ wlast w by omega)
    have cj : cOf w ((i : Int) - 1) = (wcell w (i - 1) : Int) := by unfold cOf; rw [if_pos (by omega), show ((i : Int) - 1).toNat = i - 1 by omega]
    rw [cj]
    by_cases c1 : wcell w i = wcell w (i - 1)
    · rw [if_pos (by rw [c1]), if_neg (fun z => z.elim c0 (fun z => z c1))]
    · rw [if_neg (fun z => c1 (by have := (c_eq (RI.sm (by omega) (by omega)) (RI.sm (by omega) (by omega))).mp z; omega)), if_pos (Or.inr c1)]
theorem stp_R (hA : Wf A) (tick cv : Int) (c : Nat) {w i : Nat} (hw : w < wn A) (hi : i ≤ 60) {p : Int × Int} (hp : -1 ≤ p.1 ∧ p.1 ≤ 8 ∧ -1 ≤ p.2 ∧ p.2 ≤ 100000) : -1 ≤ (stp A tick cv c w i p).1 ∧ (stp A tick cv c w i p).1 ≤ 8 ∧ -1 ≤ (stp A tick cv c w i p).2 ∧ (stp A tick cv c w i p).2 ≤ 100000 := by
  have fw := hA.2.2.1.2 w hw
  have h8 := hA.2.2.1.1
  have p9 := pace9 fw (i := i) (by omega)
  have t9 := fw.2.2.2.2.1
  have d9 := hA.1.2.2.2.2
  unfold stp
  split
  · show -1 ≤ (w : Int) ∧ (w : Int) ≤ 8 ∧ -1 ≤ (wtold (wk A w) + wpace (wk A w) * (i : Int) : Int) ∧ (wtold (wk A w) + wpace (wk A w) * (i : Int) : Int) ≤ 100000
    omega
  · exact hp
theorem shM_R (hA : Wf A) (tick cv : Int) (c : Nat) {w : Nat} (hw : w < wn A) {p : Int × Int} (hp : -1 ≤ p.1 ∧ p.1 ≤ 8 ∧ -1 ≤ p.2 ∧ p.2 ≤ 100000) : ∀ i, i ≤ 61 → -1 ≤ (shM A tick cv c w p i).1 ∧ (shM A tick cv c w p i).1 ≤ 8 ∧ -1 ≤ (shM A tick cv c w p i).2 ∧ (shM A tick cv c w p i).2 ≤ 100000
  | 0, _ => hp
  | i + 1, hi => stp_R hA tick cv c hw (by omega) (shM_R hA tick cv c hw hp i (by omega))
theorem shP_R (hA : Wf A) (tick cv : Int) (c : Nat) : ∀ w, w ≤ wn A → -1 ≤ (shP A tick cv c w).1 ∧ (shP A tick cv c w).1 ≤ 8 ∧ -1 ≤ (shP A tick cv c w).2 ∧ (shP A tick cv c w).2 ≤ 100000
  | 0, _ => by simp [shP]
  | w + 1, hw => shM_R hA tick cv c (by omega) (shP_R hA tick cv c w (by omega)) _ (by have := (hA.2.2.1.2 w (by omega)).2.2.2.1; omega)
/-- the world when cells hold P -/
abbrev shW (B : Nat) (σ : Sg) (e1 e2 : Nat → Int) (P : Nat → Int × Int) : Sg := sh2 B σ (cut e1 fun c => (P c).2) (cut e2 fun c => (P c).1)
theorem x_showWalk (h : RC B wa σ A) (hA : Wf A) {w : Nat} (hw : w < wn A) {tick cv : Int} {e1 e2 : Nat → Int} {P : Nat → Int × Int} (ht : RI tick) (hcv : RI cv) (hP : ∀ c, -1 ≤ (P c).1 ∧ (P c).1 ≤ 8 ∧ -1 ≤ (P c).2 ∧ (P c).2 ≤ 100000) (hn : 100000 ≤ n) :
    mX9_showWalk n (shW B σ e1 e2 P) B (iI w) (wa w) (iI cv) (iI tick) = some (shW B σ e1 e2 fun c => shM A tick cv c w (P c) (wlast (wk A w) + 1)) := by
  have fw := hA.2.2.1.2 w hw
  have hl := fw.2.2.2.1
  unfold mX9_showWalk
  have L : loopM (mX9_showWalk_L3 n B (iI w) (wa w) (iI cv) (iI tick)) n (shW B σ e1 e2 P, (0 : Int32)) = some (shW B σ e1 e2 fun c => shM A tick cv c w (P c) (wlast (wk A w) + 1)) := by
    have e0 : (shW B σ e1 e2 P, (0 : Int32)) = (fun t : Nat => (shW B σ e1 e2 (fun c => shM A tick cv c w (P c) t), iI (t : Int))) 0 := rfl
    rw [e0]
    refine loop_run (fun t : Nat => (shW B σ e1 e2 (fun c => shM A tick cv c w (P c) t), iI (t : Int))) (wlast (wk A w) + 1) 0 (fun t _ hq => ?_) ?_ n (by omega)
    · generalize hQ : (fun c => shM A tick cv c w (P c) t) = Q
      have hQR : ∀ c, -1 ≤ (Q c).1 ∧ (Q c).1 ≤ 8 ∧ -1 ≤ (Q c).2 ∧ (Q c).2 ≤ 100000 := fun c => by rw [← hQ]; exact shM_R hA tick cv c hw (hP c) t (by omega)
      have hQ1 : (fun c => shM A tick cv c w (P c) (t + 1)) = fun c => stp A tick cv c w t (Q c) := by rw [← hQ]; rfl
      show mX9_showWalk_L3 n B (iI w) (wa w) (iI cv) (iI tick) (shW B σ e1 e2 Q, iI t) = some (.inl (shW B σ e1 e2 (fun c => shM A tick cv c w (P c) (t + 1)), iI ((t + 1 : Nat) : Int)))
      rw [hQ1]
      have hC : RC B wa (shW B σ e1 e2 Q) A := h.fr sh2_fr
      have hW := hC.walkAt hw
      have rt : RI (t : Int) := RI.sm (by omega) (by omega)
      have ct : cOf (wk A w) t = (wcell (wk A w) t : Int) := by unfold cOf; rw [if_pos (by omega)]; rfl
      have k1 := cell256 hA fw (show t ≤ wlast (wk A w) by omega)
      have p9 := pace9 fw (i := t) (by omega)
      have t9 := fw.2.2.2.2.1
      have d9 := hA.1.2.2.2.2
      generalize hm : (wtold (wk A w) + wpace (wk A w) * (t : Int) : Int) = made
      have rm : RI made := RI.sm (by omega) (by omega)
      have go : ∀ s, mX9_showWalk_97 n s B (iI w) (wa w) (iI cv) (iI tick) (iI t) = some (.inl (s, iI ((t + 1 : Nat) : Int))) := fun s => by
        simp only [mX9_showWalk_97, pt1]
      have stay : (∀ c, stp A tick cv c w t (Q c) = Q c) → some (Sum.inl (shW B σ e1 e2 Q, iI ((t + 1 : Nat) : Int))) = (some (.inl (shW B σ e1 e2 (fun c => stp A tick cv c w t (Q c)), iI ((t + 1 : Nat) : Int))) : Option ((Sg × Int32) ⊕ Sg)) := fun z => by
        rw [show (fun c => stp A tick cv c w t (Q c)) = Q from funext z]
      simp only [mX9_showWalk_L3, gI_ok hW.1.1 (show 6 < 9 by omega) hW.2.1.2.2.2.2.2.2.1, Option.bind_some, w_cellOf hW hl rt, ct, w_tickOf hW, hm, w_isPrint hW hA fw (show t ≤ wlast (wk A w) by omega)]
      rw [if_neg (fun z => by have := (c_lt (RI.sm (by omega) (by omega)) rt).mp z; omega)]
      have off : ∀ s, mX9_showWalk_54 n s B (iI w) (wa w) (iI cv) (iI tick) (iI t) (iI (wcell (wk A w) t)) (iI made) = some (.inl (s, iI ((t + 1 : Nat) : Int))) := fun s => by
        simp only [mX9_showWalk_54, mX9_showWalk_55, if_pos, go]
      by_cases c1 : prt (wk A w) t
      · rw [if_pos c1, if_neg i10]
        by_cases c2 : made ≤ cv
        · rw [if_pos ((c_le rm hcv).mpr c2), off]
          exact stay (fun c => by unfold stp; rw [hm, if_neg (by omega)])
        · rw [if_neg (fun z => c2 ((c_le rm hcv).mp z))]
          by_cases c3 : tick < made
          · rw [if_pos ((c_lt ht rm).mpr c3), off]
            exact stay (fun c => by unfold stp; rw [hm, if_neg (by omega)])
          · rw [if_neg (fun z => c3 ((c_lt ht rm).mp z))]
            have s44 : (shW B σ e1 e2 Q).2.1 (B + 44) = some (11, 256) := hC.sh 44 (by omega)
            have r1 : toI (aV 11 (shW B σ e1 e2 Q) (B + 44) (iI (wcell (wk A w) t))) = some (iI (Q (wcell (wk A w) t)).2) := by
              rw [aI_ok s44 sh2_44 (by omega) (by omega) (by omega), show ((wcell (wk A w) t : Int)).toNat = wcell (wk A w) t by omega]
              unfold cut
              rw [if_pos k1]
            have b := hQR (wcell (wk A w) t)
            simp only [mX9_showWalk_55, if_neg i10, hC.r16, r1, Option.bind_some]
            rw [if_neg (fun z => by have := (c_eqm (RI.sm (by omega) (by omega))).mp z; omega)]
            by_cases c4 : made ≤ (Q (wcell (wk A w) t)).2
            · rw [if_pos ((c_le rm (RI.sm (by omega) (by omega))).mpr c4), go]
              refine stay (fun c => ?_)
              unfold stp
              rw [hm, if_neg]
              rintro ⟨-, z2, -, -, z5⟩
              rw [← z2] at z5
              omega
            · rw [if_neg (fun z => c4 ((c_le rm (RI.sm (by omega) (by omega))).mp z)), sV_ok s44 sh2_44 (by omega) (by omega) (by omega), show ((wcell (wk A w) t : Int)).toNat = wcell (wk A w) t by omega, sh2_set1, upd_cut k1]
              generalize hD : (cut e1 fun c => if c = wcell (wk A w) t then made else (Q c).2) = D
              have hC2 : RC B wa (sh2 B σ D (cut e2 fun c => (Q c).1)) A := h.fr sh2_fr
              have s45 : (sh2 B σ D (cut e2 fun c => (Q c).1)).2.1 (B + 45) = some (11, 256) := hC2.sh 45 (by omega)
              simp only [Option.bind_some, hC2.r17]
              rw [sV_ok s45 sh2_45 (by omega) (by omega) (by omega), show ((wcell (wk A w) t : Int)).toNat = wcell (wk A w) t by omega, sh2_set2, upd_cut k1]
              simp only [Option.bind_some, go]
              have z : ∀ c, stp A tick cv c w t (Q c) = if c = wcell (wk A w) t then ((w : Int), made) else Q c := fun c => by
                unfold stp
                rw [hm]
                by_cases zz : c = wcell (wk A w) t
                · rw [if_pos zz, if_pos ⟨c1, zz.symm, by omega, by omega, by rw [zz]; omega⟩]
                · rw [if_neg zz, if_neg (fun y => zz y.2.1.symm)]
              have z1 : (fun c => (stp A tick cv c w t (Q c)).2) = fun c => if c = wcell (wk A w) t then made else (Q c).2 := funext fun c => by
                rw [z c]; split <;> rfl
              have z2 : (fun c => (stp A tick cv c w t (Q c)).1) = fun c => if c = wcell (wk A w) t then (w : Int) else (Q c).1 := funext fun c => by
                rw [z c]; split <;> rfl
              show some (Sum.inl (sh2 B σ D _, _)) = some (Sum.inl (sh2 B σ (cut e1 fun c => (stp A tick cv c w t (Q c)).2) (cut e2 fun c => (stp A tick cv c w t (Q c)).1), _))
              rw [z1, z2, hD]
      · rw [if_neg c1, if_pos i00, off]
        exact stay (fun c => by unfold stp; rw [if_neg (fun z => c1 z.1)])
    · simp only [Nat.zero_add]
      generalize (fun c => shM A tick cv c w (P c) (wlast (wk A w) + 1)) = Q
      have hC : RC B wa (shW B σ e1 e2 Q) A := h.fr sh2_fr
      have hW := hC.walkAt hw
      simp only [mX9_showWalk_L3, gI_ok hW.1.1 (show 6 < 9 by omega) hW.2.1.2.2.2.2.2.2.1, Option.bind_some]
      rw [if_pos ((c_lt (RI.sm (by omega) (by omega)) (RI.sm (by omega) (by omega))).mpr (by omega))]
  have hC : RC B wa (shW B σ e1 e2 P) A := h.fr sh2_fr
  simp only [hC.o, Option.bind_some, L]
theorem x_showAll (h : St B wa σ A) {tick : Int} (ht : RI tick) (hn : 100000 ≤ n) : ∃ e1 e2, mX9_showAll n σ B (iI tick) = some (shW B σ e1 e2 fun c => shP A tick (cov A tick (sn A)) c (wn A)) := by
  obtain ⟨hC, hS, hA⟩ := id h
  have h8 := hA.2.2.1.1
  obtain ⟨e1, m1⟩ := hS.2.2.2.2.2.2.2.1
  obtain ⟨e2, m2⟩ := hS.2.2.2.2.2.2.2.2.1
  refine ⟨e1, e2, ?_⟩
  have cR := cov_R hA tick (sn A) (Nat.le_refl _)
  have s44 : σ.2.1 (B + 44) = some (11, 256) := hC.sh 44 (by omega)
  have s45 : σ.2.1 (B + 45) = some (11, 256) := hC.sh 45 (by omega)
  have i0 : setA σ (B + 44) (fil 256 (-1) e1) = sh2 B σ (fil 256 (-1) e1) e2 := by
    conv => lhs; rw [← sh2_id m1 m2]
    rw [sh2_set1]
  have hC1 : RC B wa (sh2 B σ (fil 256 (-1) e1) e2) A := hC.fr sh2_fr
  have hC2 : RC B wa (sh2 B σ (fil 256 (-1) e1) (fil 256 (-1) e2)) A := hC.fr sh2_fr
  have f1 := j_fill (n := n) s44 m1 (v := -1) (by omega) hn
  have f2 := j_fill (n := n) (σ := sh2 B σ (fil 256 (-1) e1) e2) (a := B + 45) s45 sh2_45 (v := -1) (by omega) hn
  rw [i0] at f1
  rw [sh2_set2] at f2
  have i1 : sh2 B σ (fil 256 (-1) e1) (fil 256 (-1) e2) = shW B σ e1 e2 (fun c => shP A tick (cov A tick (sn A)) c 0) := rfl
  have L : loopM (mX9_showAll_L24 n B (iI tick) (iI (cov A tick (sn A)))) n (sh2 B σ (fil 256 (-1) e1) (fil 256 (-1) e2), (0 : Int32)) = some (shW B σ e1 e2 fun c => shP A tick (cov A tick (sn A)) c (wn A)) := by
    rw [i1]
    have e0 : (shW B σ e1 e2 (fun c => shP A tick (cov A tick (sn A)) c 0), (0 : Int32)) = (fun t : Nat => (shW B σ e1 e2 (fun c => shP A tick (cov A tick (sn A)) c t), iI (t : Int))) 0 := rfl
    rw [e0]
    refine loop_run (fun t : Nat => (shW B σ e1 e2 (fun c => shP A tick (cov A tick (sn A)) c t), iI (t : Int))) (wn A) 0 (fun t _ hq => ?_) ?_ n (by omega)
    · have hC3 : RC B wa (shW B σ e1 e2 (fun c => shP A tick (cov A tick (sn A)) c t)) A := hC.fr sh2_fr
      have rt : RI (t : Int) := RI.sm (by omega) (by omega)
      have hs := x_showWalk (n := n) hC hA (w := t) (by omega) (tick := tick) (cv := cov A tick (sn A)) (e1 := e1) (e2 := e2) (P := fun c => shP A tick (cov A tick (sn A)) c t) ht (RI.sm (by omega) (by omega)) (fun c => shP_R hA tick _ c t (by omega)) hn
      simp only [mX9_showAll_L24, hC3.qwn, hC3.r5, hC3.walk hA (show t < wn A by omega), Option.bind_some, hs, mX9_showAll_54, pt1]
      rw [if_neg (fun q => by have := (c_le (RI.sm (by omega) (by omega)) rt).mp q; omega)]
      rfl
    · have hC3 : RC B wa (shW B σ e1 e2 (fun c => shP A tick (cov A tick (sn A)) c (0 + wn A))) A := hC.fr sh2_fr
      simp only [mX9_showAll_L24, hC3.qwn, Option.bind_some]
      rw [if_pos ((c_le (RI.sm (by omega) (by omega)) (RI.sm (by omega) (by omega))).mpr (by omega)), Nat.zero_add]
  unfold mX9_showAll
  have em : (-1 : Int32) = iI (-1) := rfl
  simp only [hC.o, hC.r16, Option.bind_some, em, f1, hC1.r17, f2, x_latestSnow hC2 hA ht hn, L]
theorem x_shown (h : St B wa σ A) {x y tick : Int} (hx : RI x) (hy : RI y) (ht : RI tick) (hn : 100000 ≤ n) : ∃ r σ', mX9_shown n σ B (iI x) (iI y) (iI tick) = some (iI r, σ') ∧ St B wa σ' A ∧ Fr B σ σ' ∧ r = if cAt A x y ≠ -1 ∧ 0 ≤ tick ∧ tick ≤ 5000 then (shP A tick (cov A tick (sn A)) (cAt A x y).toNat (wn A)).1 else -1 := by
  obtain ⟨hC, hS, hA⟩ := id h
  have hc := cAt_RI A hA x y
  have rc : RI (cAt A x y) := RI.sm (by omega) (by omega)
  unfold mX9_shown
  simp only [hC.o, Option.bind_some, x_cellAt hC hA hx hy]
  by_cases c0 : cAt A x y = -1
  · rw [if_pos ((c_eqm rc).mpr c0), if_neg (fun q => q.1 c0)]
    exact ⟨-1, σ, rfl, h, Fr.refl B σ, rfl⟩
  · rw [if_neg (fun q => c0 ((c_eqm rc).mp q))]
    simp only [x_isTick ht, Option.bind_some]
    by_cases c1 : 0 ≤ tick ∧ tick ≤ 5000
    · rw [if_pos c1, if_neg i10, if_pos ⟨c0, c1⟩]
      obtain ⟨e1, e2, hs⟩ := x_showAll (n := n) h ht hn
      have hC3 : RC B wa (shW B σ e1 e2 (fun c => shP A tick (cov A tick (sn A)) c (wn A))) A := hC.fr sh2_fr
      have s45 : (shW B σ e1 e2 (fun c => shP A tick (cov A tick (sn A)) c (wn A))).2.1 (B + 45) = some (11, 256) := hC3.sh 45 (by omega)
      simp only [hs, Option.bind_some, hC3.r17, aI_ok s45 sh2_45 (show 0 ≤ cAt A x y by omega) (show cAt A x y < (256 : Nat) by omega) (by omega)]
      refine ⟨_, _, rfl, h.sh2, sh2_fr, ?_⟩
      unfold cut
      rw [if_pos (by omega)]
    · rw [if_neg c1, if_pos i00, if_neg (fun q => c1 q.2)]
      exact ⟨-1, σ, rfl, h, Fr.refl B σ, rfl⟩
/-- in how many cells below k a walk is shown -/
def trl (A : AS) (tick w : Int) : Nat → Nat
  | 0 => 0
  | k + 1 => if (shP A tick (cov A tick (sn A)) k (wn A)).1 = w then trl A tick w k + 1 else trl A tick w k
theorem trl_le (A : AS) (tick w : Int) : ∀ k, trl A tick w k ≤ k
  | 0 => Nat.le_refl 0
  | k + 1 => by
    have := trl_le A tick w k
    unfold trl
    split <;> omega
theorem x_trail (h : St B wa σ A) {w tick : Int} (hw : RI w) (ht : RI tick) (hn : 100000 ≤ n) : ∃ r σ', mX9_trail n σ B (iI w) (iI tick) = some (iI r, σ') ∧ St B wa σ' A ∧ Fr B σ σ' ∧ r = if isW A w ∧ 0 ≤ tick ∧ tick ≤ 5000 then (trl A tick w 256 : Int) else -1 := by
  obtain ⟨hC, hS, hA⟩ := id h
  unfold mX9_trail
  simp only [hC.o, Option.bind_some, x_walkOf hC hA hw]
  by_cases c0 : 0 ≤ w ∧ w < wn A
  · simp only [if_pos c0, x_isTick ht, Option.bind_some]
    by_cases c1 : 0 ≤ tick ∧ tick ≤ 5000
    · rw [if_pos c1, if_neg i10, if_pos (show isW A w ∧ 0 ≤ tick ∧ tick ≤ 5000 from ⟨c0, c1⟩)]
      obtain ⟨e1, e2, hs⟩ := x_showAll (n := n) h ht hn
      generalize hσ : (shW B σ e1 e2 (fun c => shP A tick (cov A tick (sn A)) c (wn A))) = s at hs
      have hC3 : RC B wa s A := by rw [← hσ]; exact hC.fr sh2_fr
      have hS3 : St B wa s A := by rw [← hσ]; exact h.sh2
      have hF3 : Fr B σ s := by rw [← hσ]; exact sh2_fr
      have s45 : s.2.1 (B + 45) = some (11, 256) := hC3.sh 45 (by omega)
      have m45 : s.2.2 (B + 45) = iz (cut e2 fun c => (shP A tick (cov A tick (sn A)) c (wn A)).1) := by rw [← hσ]; exact sh2_45
      have L : loopM (mX9_trail_L27 n B (iI w)) n (s, (0 : Int32), (0 : Int32)) = some (s, iI (trl A tick w 256)) := by
        have e0 : (s, (0 : Int32), (0 : Int32)) = (fun t : Nat => (s, iI (trl A tick w t), iI (t : Int))) 0 := rfl
        rw [e0]
        refine loop_run (fun t : Nat => (s, iI (trl A tick w t), iI (t : Int))) 256 0 (fun t _ hq => ?_) ?_ n (by omega)
        · have rt : RI (t : Int) := RI.sm (by omega) (by omega)
          have b := shP_R hA tick (cov A tick (sn A)) t (wn A) (Nat.le_refl _)
          have r1 : toI (aV 11 s (B + 45) (iI t)) = some (iI (shP A tick (cov A tick (sn A)) t (wn A)).1) := by
            rw [aI_ok s45 m45 (by omega) (by omega) (by omega), show ((t : Int)).toNat = t by omega]
            unfold cut
            rw [if_pos (by omega)]
          have sx : trl A tick w (t + 1) = if (shP A tick (cov A tick (sn A)) t (wn A)).1 = w then trl A tick w t + 1 else trl A tick w t := rfl
          simp only [mX9_trail_L27, hC3.r17, r1, Option.bind_some]
          rw [if_neg (fun q => by have := (c_Lle 256 (by omega) rt).mp q; omega)]
          by_cases c2 : (shP A tick (cov A tick (sn A)) t (wn A)).1 = w
          · rw [if_pos (by rw [c2])]
            rw [if_pos c2] at sx
            simp only [mX9_trail_49, pt1, sx]
          · rw [if_neg (fun q => c2 ((c_eq (RI.sm (by omega) (by omega)) hw).mp q))]
            rw [if_neg c2] at sx
            simp only [mX9_trail_49, pt1, sx]
        · simp only [Nat.zero_add, mX9_trail_L27]
          rw [if_pos ((c_Lle 256 (by omega) (RI.sm (by omega) (by omega))).mpr (by omega))]
      simp only [hs, Option.bind_some, L]
      exact ⟨_, _, rfl, hS3, hF3, rfl⟩
    · rw [if_neg c1, if_pos i00, if_neg (fun q => c1 q.2)]
      exact ⟨-1, σ, rfl, h, Fr.refl B σ, rfl⟩
  · simp only [if_neg c0]
    rw [if_neg (fun q => c0 q.1)]
    exact ⟨-1, σ, rfl, h, Fr.refl B σ, rfl⟩
end X42
