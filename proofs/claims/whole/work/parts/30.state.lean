/-! ===== the abstract state, and how the class's heap holds it ===== -/
/-- a walk: pace, boot, last moment, cell at each moment, told start -/
abbrev Wk : Type := Nat × Nat × Nat × (Nat → Nat) × Nat
/-- a fact: who, over, under, least, most -/
abbrev Fc : Type := Int × Nat × Nat × Int × Int
/-- wide, deep, day; bytes of the tape; walks; facts; snows -/
abbrev AS : Type := (Nat × Nat × Nat) × (Nat × (Nat → Nat)) × (Nat × (Nat → Wk)) × (Nat × (Nat → Fc)) × (Nat × (Nat → Nat))
def wide (A : AS) : Nat := A.1.1
def deep (A : AS) : Nat := A.1.2.1
def day (A : AS) : Nat := A.1.2.2
def tn (A : AS) : Nat := A.2.1.1
def tb (A : AS) : Nat → Nat := A.2.1.2
def wn (A : AS) : Nat := A.2.2.1.1
def wk (A : AS) : Nat → Wk := A.2.2.1.2
def fn (A : AS) : Nat := A.2.2.2.1.1
def fc (A : AS) : Nat → Fc := A.2.2.2.1.2
def sn (A : AS) : Nat := A.2.2.2.2.1
def sw (A : AS) : Nat → Nat := A.2.2.2.2.2
def wpace (w : Wk) : Nat := w.1
def wboot (w : Wk) : Nat := w.2.1
def wlast (w : Wk) : Nat := w.2.2.1
def wcell (w : Wk) : Nat → Nat := w.2.2.2.1
def wtold (w : Wk) : Nat := w.2.2.2.2
/-- the latest moment with a print in a cell, or -1 -/
def lat (c : Nat → Nat) (cell : Nat) : Nat → Int
  | 0 => if c 0 = cell then 0 else -1
  | i + 1 => if c (i + 1) = cell ∧ ¬ c (i + 1) = c i then ((i + 1 : Nat) : Int) else lat c cell i
/-- how many prints -/
def prn (c : Nat → Nat) : Nat → Nat
  | 0 => 1
  | i + 1 => if c (i + 1) = c i then prn c i else prn c i + 1
/-- how many cells below k have prints -/
def plc (c : Nat → Nat) (l : Nat) : Nat → Nat
  | 0 => 0
  | k + 1 => if lat c k l = -1 then plc c l k else plc c l k + 1
theorem lat_range (c : Nat → Nat) (cell : Nat) : ∀ l, -1 ≤ lat c cell l ∧ lat c cell l ≤ l
  | 0 => by unfold lat; split <;> omega
  | i + 1 => by
    have := lat_range c cell i
    unfold lat
    split <;> omega
/-- a Walk at q, its arrays behind it -/
def WalkAt (σ : Sg) (q : Nat) (w : Wk) : Prop :=
  (σ.2.1 q = some (8, 9) ∧ σ.2.1 (q + 1) = some (11, 61) ∧ σ.2.1 (q + 2) = some (11, 256) ∧ σ.2.1 (q + 3) = some (11, 61)) ∧
  (σ.2.2 q 0 = .int (iI (wpace w)) ∧ σ.2.2 q 1 = .int (iI (wboot w)) ∧ σ.2.2 q 2 = .ref (q + 1) ∧ σ.2.2 q 3 = .ref (q + 2) ∧ σ.2.2 q 4 = .ref (q + 3) ∧ σ.2.2 q 5 = .int (iI (plc (wcell w) (wlast w) 256)) ∧ σ.2.2 q 6 = .int (iI (wlast w)) ∧ σ.2.2 q 7 = .int (iI (prn (wcell w) (wlast w))) ∧ σ.2.2 q 8 = .int (iI (wtold w))) ∧
  (∃ e, σ.2.2 (q + 1) = iz e ∧ ∀ i, i ≤ wlast w → e i = wcell w i) ∧ (∃ e, σ.2.2 (q + 2) = iz e ∧ ∀ i, i < 256 → e i = lat (wcell w) i (wlast w)) ∧
  (∃ e, σ.2.2 (q + 3) = iz e ∧ ∀ k, k < 256 → lat (wcell w) k (wlast w) ≠ -1 → e (plc (wcell w) (wlast w) k) = k)
def WWf (A : AS) (w : Wk) : Prop := 1 ≤ wpace w ∧ wpace w ≤ 9 ∧ wboot w ≤ 9 ∧ wlast w ≤ 60 ∧ wtold w ≤ day A ∧ ∀ i, i ≤ wlast w → wcell w i % 16 < wide A ∧ wcell w i / 16 < deep A
def FWf (A : AS) (f : Fc) : Prop := -1 ≤ f.1 ∧ f.1 ≤ 5 ∧ f.2.1 ≤ wn A ∧ f.2.2.1 ≤ wn A ∧ f.2.1 ≠ f.2.2.1 ∧ -1000000 ≤ f.2.2.2.1 ∧ f.2.2.2.1 ≤ 1000000 ∧ -1000000 ≤ f.2.2.2.2 ∧ f.2.2.2.2 ≤ 1000000 ∧ f.2.2.2.1 ≤ f.2.2.2.2
/-- what every state keeps -/
def Wf (A : AS) : Prop :=
  (2 ≤ wide A ∧ wide A ≤ 16 ∧ 2 ≤ deep A ∧ deep A ≤ 16 ∧ 10 ≤ day A ∧ day A ≤ 2000) ∧ (tn A ≤ 160 ∧ ∀ k, k < tn A → 1 ≤ tb A k ∧ tb A k ≤ 255) ∧ (wn A ≤ 8 ∧ ∀ w, w < wn A → WWf A (wk A w)) ∧ (fn A ≤ 20 ∧ ∀ f, f < fn A → FWf A (fc A f)) ∧ (sn A ≤ 8 ∧ ∀ s, s < sn A → sw A s ≤ 5000)
/-- kinds and lengths of the class's cells, from its object on -/
def xtL : List (Nat × Nat) := [(9, 18), (7, 7), (11, 160), (13, 8), (14, 20), (11, 8), (4, 2), (11, 81), (1, 2), (11, 81), (11, 81), (0, 5), (15, 7), (11, 6), (11, 6),
  (4, 2), (11, 81), (4, 2), (11, 81), (4, 2), (11, 81), (4, 2), (11, 81), (4, 2), (11, 81), (4, 2), (11, 81), (4, 2), (11, 81), (6, 5), (15, 6),
  (4, 2), (11, 81), (4, 2), (11, 81), (4, 2), (11, 81), (4, 2), (11, 81), (4, 2), (11, 81), (4, 2), (11, 81), (3, 4), (11, 256), (11, 256), (5, 6), (11, 60), (11, 3), (11, 3),
  (2, 5), (2, 5), (2, 5), (2, 5), (2, 5), (2, 5), (2, 5), (2, 5), (2, 5), (2, 5), (2, 5), (2, 5), (2, 5), (2, 5), (2, 5), (2, 5), (2, 5), (2, 5), (2, 5), (2, 5)]
/-- its references: cell, place, cell -/
def ptL : List (Nat × Nat × Nat) := [(0, 3, 1), (0, 4, 46), (0, 5, 3), (0, 7, 4), (0, 9, 5), (0, 11, 6), (0, 12, 8), (0, 13, 11), (0, 14, 29), (0, 15, 43), (0, 16, 44), (0, 17, 45), (1, 0, 2), (6, 0, 7), (8, 0, 9), (8, 1, 10), (11, 0, 12), (11, 1, 13), (11, 2, 14), (29, 0, 30), (46, 2, 47), (46, 4, 48), (46, 5, 49)]
/-- places that hold only what the class works with, between calls of no meaning -/
def sp (r k : Nat) : Bool := (r == 1 && decide (2 ≤ k)) || (r == 6 && k == 1) || r == 7 || r == 9 || r == 10 || (r == 11 && decide (3 ≤ k)) || r == 13 || r == 14 || (decide (15 ≤ r) && decide (r < 29) && (r % 2 == 0 || k == 1)) || (r == 29 && decide (1 ≤ k)) || (decide (31 ≤ r) && decide (r < 43) && (r % 2 == 0 || k == 1)) || r == 43 || r == 44 || r == 45 || (r == 46 && k == 3) || r == 47 || r == 48 || r == 49
def SP (B a k : Nat) : Prop := B ≤ a ∧ a < B + 70 ∧ sp (a - B) k = true
/-- the class's heap holds A -/
def RC (B : Nat) (wa : Nat → Nat) (σ : Sg) (A : AS) : Prop :=
  (∀ k, k < 70 → σ.2.1 (B + k) = xtL[k]?) ∧ (∀ (i : Nat) (q : Nat × Nat × Nat), ptL[i]? = some q → σ.2.2 (B + q.1) q.2.1 = .ref (B + q.2.2)) ∧
  (∀ k, k < 7 → σ.2.2 (B + 12) k = .ref (B + (15 + 2 * k)) ∧ σ.2.2 (B + (15 + 2 * k)) 0 = .ref (B + (16 + 2 * k))) ∧ (∀ k, k < 6 → σ.2.2 (B + 30) k = .ref (B + (31 + 2 * k)) ∧ σ.2.2 (B + (31 + 2 * k)) 0 = .ref (B + (32 + 2 * k))) ∧ (∀ k, k < 20 → σ.2.2 (B + 4) k = .ref (B + (50 + k))) ∧
  (σ.2.2 B 0 = .int (iI (wide A)) ∧ σ.2.2 B 1 = .int (iI (deep A)) ∧ σ.2.2 B 2 = .int (iI (day A)) ∧ σ.2.2 B 6 = .int (iI (wn A)) ∧ σ.2.2 B 8 = .int (iI (fn A)) ∧ σ.2.2 B 10 = .int (iI (sn A)) ∧ σ.2.2 (B + 1) 1 = .int (iI (tn A)) ∧ σ.2.2 (B + 46) 0 = .int (iI (wide A)) ∧ σ.2.2 (B + 46) 1 = .int (iI (deep A))) ∧
  (∃ e, σ.2.2 (B + 2) = iz e ∧ ∀ k, k < tn A → e k = tb A k) ∧ (∃ e, σ.2.2 (B + 5) = iz e ∧ ∀ k, k < sn A → e k = sw A k) ∧
  (∀ k, k < fn A → FactAt σ (B + (50 + k)) (fc A k).1 (fc A k).2.1 (fc A k).2.2.1 (fc A k).2.2.2.1 (fc A k).2.2.2.2) ∧
  (∀ w, w < wn A → σ.2.2 (B + 3) w = .ref (wa w) ∧ WalkAt σ (wa w) (wk A w) ∧ B + 90 ≤ wa w ∧ wa w + 4 ≤ σ.1) ∧ (∀ w, wn A ≤ w → w < 8 → σ.2.2 (B + 3) w = .null) ∧ (∀ v w, v < w → w < wn A → wa v + 4 ≤ wa w) ∧ B + 90 ≤ σ.1
/-- only places of no meaning differ -/
def Fr (B : Nat) (σ σ' : Sg) : Prop := σ'.1 = σ.1 ∧ σ'.2.1 = σ.2.1 ∧ ∀ a k, ¬ SP B a k → σ'.2.2 a k = σ.2.2 a k
theorem Fr.refl (B : Nat) (σ : Sg) : Fr B σ σ := ⟨rfl, rfl, fun _ _ _ => rfl⟩
theorem Fr.trans {B : Nat} {σ σ' σ'' : Sg} (h1 : Fr B σ σ') (h2 : Fr B σ' σ'') : Fr B σ σ'' := ⟨h2.1.trans h1.1, h2.2.1.trans h1.2.1, fun a k h => (h2.2.2 a k h).trans (h1.2.2 a k h)⟩
theorem Fr.setA {B : Nat} {σ : Sg} {r : Nat} {d : Nat → Int} (hr : r < 70) (h : ∀ k, sp r k = true) : Fr B σ (setA σ (B + r) d) := by
  refine ⟨rfl, rfl, fun a k hk => ?_⟩
  have ha : a ≠ B + r := fun e => hk ⟨by omega, by omega, by rw [show a - B = r by omega]; exact h k⟩
  rw [setA_ne _ _ ha]
theorem Fr.setF {B : Nat} {σ : Sg} {r k : Nat} {v : Value} (hr : r < 70) (h : sp r k = true) : Fr B σ (setF σ (B + r) k v) := by
  refine ⟨rfl, rfl, fun a j hj => ?_⟩
  rw [setF_at, if_neg]
  rintro ⟨rfl, rfl⟩
  exact hj ⟨by omega, by omega, by rw [show B + r - B = r by omega]; exact h⟩
theorem SP.no {B r k : Nat} (h : sp r k = false) : ¬ SP B (B + r) k := by
  rintro ⟨-, -, h2⟩
  rw [show B + r - B = r by omega, h] at h2
  cases h2
theorem SP.no0 {B k : Nat} : ¬ SP B B k := by
  rintro ⟨-, -, h2⟩
  rw [show B - B = 0 by omega] at h2
  simp [sp] at h2
theorem SP.far {B a k : Nat} (h : B + 70 ≤ a) : ¬ SP B a k := by
  rintro ⟨-, h2, -⟩
  omega
theorem Fr.at {B : Nat} {σ σ' : Sg} (h : Fr B σ σ') {r k : Nat} (hs : sp r k = false) : σ'.2.2 (B + r) k = σ.2.2 (B + r) k := h.2.2 _ _ (SP.no hs)
theorem Fr.at0 {B : Nat} {σ σ' : Sg} (h : Fr B σ σ') {k : Nat} : σ'.2.2 B k = σ.2.2 B k := h.2.2 _ _ SP.no0
theorem Fr.far {B : Nat} {σ σ' : Sg} (h : Fr B σ σ') {a : Nat} (ha : B + 70 ≤ a) : σ'.2.2 a = σ.2.2 a := funext fun k => h.2.2 a k (SP.far ha)
theorem Fr.row {B : Nat} {σ σ' : Sg} (h : Fr B σ σ') {r : Nat} (hs : ∀ k, sp r k = false) : σ'.2.2 (B + r) = σ.2.2 (B + r) := funext fun k => h.at (hs k)
theorem WalkAt.same {σ σ' : Sg} {q : Nat} {w : Wk} (h : WalkAt σ q w) (hs : σ'.2.1 = σ.2.1) (hm : ∀ j, j < 4 → σ'.2.2 (q + j) = σ.2.2 (q + j)) : WalkAt σ' q w := by
  have m0 : σ'.2.2 q = σ.2.2 q := hm 0 (by omega)
  have m1 := hm 1 (by omega)
  have m2 := hm 2 (by omega)
  have m3 := hm 3 (by omega)
  unfold WalkAt at h ⊢
  rw [hs, m0, m1, m2, m3]
  exact h
theorem FactAt.same {σ σ' : Sg} {f : Nat} {who : Int} {o u : Nat} {lo hi : Int} (h : FactAt σ f who o u lo hi) (hs : σ'.2.1 f = σ.2.1 f) (hm : σ'.2.2 f = σ.2.2 f) : FactAt σ' f who o u lo hi := by
  unfold FactAt at h ⊢
  rw [hs, hm]
  exact h
theorem sp_50 {k j : Nat} (hk : 50 ≤ k) : sp k j = false := by
  simp only [sp, Bool.or_eq_false_iff, Bool.and_eq_false_iff, beq_eq_false_iff_ne, decide_eq_false_iff_not]
  omega
theorem RC.fr {B : Nat} {wa : Nat → Nat} {σ σ' : Sg} {A : AS} (h : RC B wa σ A) (hF : Fr B σ σ') : RC B wa σ' A := by
  obtain ⟨h1, h2, h3, h4, h5, ⟨i1, i2, i3, i4, i5, i6, i7, i8, i9⟩, ⟨e1, t1, t2⟩, ⟨e2, s1, s2⟩, hf, hw, hw0, hwd, hz⟩ := h
  have hsh := hF.2.1
  refine ⟨fun k hk => by rw [hsh]; exact h1 k hk, fun i q hq => ?_, fun k hk => ?_, fun k hk => ?_, fun k hk => ?_, ⟨by rw [hF.at0]; exact i1, by rw [hF.at0]; exact i2, by rw [hF.at0]; exact i3, by rw [hF.at0]; exact i4, by rw [hF.at0]; exact i5, by rw [hF.at0]; exact i6, by rw [hF.at rfl]; exact i7, by rw [hF.at rfl]; exact i8, by rw [hF.at rfl]; exact i9⟩, ⟨e1, by rw [hF.row (fun k => rfl)]; exact t1, t2⟩, ⟨e2, by rw [hF.row (fun k => rfl)]; exact s1, s2⟩, fun k hk => ?_, fun w hwn => ?_, fun w q1 q2 => by rw [hF.at rfl]; exact hw0 w q1 q2, hwd, by rw [hF.1]; exact hz⟩
  · have hs : sp q.1 q.2.1 = false := by
      have hall : ptL.all (fun q => !sp q.1 q.2.1) = true := by decide
      have := List.all_eq_true.mp hall q (List.mem_of_getElem? hq)
      simpa using this
    rw [hF.at hs]; exact h2 i q hq
  · obtain ⟨q1, q2⟩ := h3 k hk
    have z1 : sp 12 k = false := rfl
    have z2 : sp (15 + 2 * k) 0 = false := by
      rcases (show k = 0 ∨ k = 1 ∨ k = 2 ∨ k = 3 ∨ k = 4 ∨ k = 5 ∨ k = 6 by omega) with rfl | rfl | rfl | rfl | rfl | rfl | rfl <;> rfl
    exact ⟨by rw [hF.at z1]; exact q1, by rw [hF.at z2]; exact q2⟩
  · obtain ⟨q1, q2⟩ := h4 k hk
    have z1 : sp 30 k = false := rfl
    have z2 : sp (31 + 2 * k) 0 = false := by
      rcases (show k = 0 ∨ k = 1 ∨ k = 2 ∨ k = 3 ∨ k = 4 ∨ k = 5 by omega) with rfl | rfl | rfl | rfl | rfl | rfl <;> rfl
    exact ⟨by rw [hF.at z1]; exact q1, by rw [hF.at z2]; exact q2⟩
  · rw [hF.at rfl]; exact h5 k hk
  · exact (hf k hk).same (by rw [hsh]) (hF.row (fun j => sp_50 (by omega)))
  · obtain ⟨q1, q2, q3, q4⟩ := hw w hwn
    exact ⟨by rw [hF.at rfl]; exact q1, q2.same hsh (fun j hj => hF.far (by omega)), q3, by rw [hF.1]; exact q4⟩
section RCA
variable {B : Nat} {wa : Nat → Nat} {σ : Sg} {A : AS}
theorem RC.sh (h : RC B wa σ A) (k : Nat) (hk : k < 70) : σ.2.1 (B + k) = xtL[k]? := h.1 k hk
theorem RC.x (h : RC B wa σ A) : σ.2.1 B = some (9, 18) := h.1 0 (by omega)
theorem RC.pt (h : RC B wa σ A) {q : Nat × Nat × Nat} (i : Nat) (hq : ptL[i]? = some q) : σ.2.2 (B + q.1) q.2.1 = .ref (B + q.2.2) := h.2.1 i q hq
theorem RC.gI (h : RC B wa σ A) {k : Nat} {z : Int} (hk : k < 18) (hv : σ.2.2 B k = .int (iI z)) : toI (gV 9 σ B k) = some (iI z) := gI_ok h.x hk hv
theorem RC.qwide (h : RC B wa σ A) : toI (gV 9 σ B 0) = some (iI (wide A)) := gI_ok h.x (by omega) h.2.2.2.2.2.1.1
theorem RC.qdeep (h : RC B wa σ A) : toI (gV 9 σ B 1) = some (iI (deep A)) := gI_ok h.x (by omega) h.2.2.2.2.2.1.2.1
theorem RC.qday (h : RC B wa σ A) : toI (gV 9 σ B 2) = some (iI (day A)) := gI_ok h.x (by omega) h.2.2.2.2.2.1.2.2.1
theorem RC.qwn (h : RC B wa σ A) : toI (gV 9 σ B 6) = some (iI (wn A)) := gI_ok h.x (by omega) h.2.2.2.2.2.1.2.2.2.1
theorem RC.qfn (h : RC B wa σ A) : toI (gV 9 σ B 8) = some (iI (fn A)) := gI_ok h.x (by omega) h.2.2.2.2.2.1.2.2.2.2.1
theorem RC.qsn (h : RC B wa σ A) : toI (gV 9 σ B 10) = some (iI (sn A)) := gI_ok h.x (by omega) h.2.2.2.2.2.1.2.2.2.2.2.1
theorem RC.r3 (h : RC B wa σ A) : toR (gV 9 σ B 3) = some (B + 1) := gR_ok h.x (by omega) (h.pt 0 rfl)
theorem RC.r4 (h : RC B wa σ A) : toR (gV 9 σ B 4) = some (B + 46) := gR_ok h.x (by omega) (h.pt 1 rfl)
theorem RC.r5 (h : RC B wa σ A) : toR (gV 9 σ B 5) = some (B + 3) := gR_ok h.x (by omega) (h.pt 2 rfl)
theorem RC.r7 (h : RC B wa σ A) : toR (gV 9 σ B 7) = some (B + 4) := gR_ok h.x (by omega) (h.pt 3 rfl)
theorem RC.r9 (h : RC B wa σ A) : toR (gV 9 σ B 9) = some (B + 5) := gR_ok h.x (by omega) (h.pt 4 rfl)
theorem RC.r11 (h : RC B wa σ A) : toR (gV 9 σ B 11) = some (B + 6) := gR_ok h.x (by omega) (h.pt 5 rfl)
theorem RC.r12 (h : RC B wa σ A) : toR (gV 9 σ B 12) = some (B + 8) := gR_ok h.x (by omega) (h.pt 6 rfl)
theorem RC.r13 (h : RC B wa σ A) : toR (gV 9 σ B 13) = some (B + 11) := gR_ok h.x (by omega) (h.pt 7 rfl)
theorem RC.r14 (h : RC B wa σ A) : toR (gV 9 σ B 14) = some (B + 29) := gR_ok h.x (by omega) (h.pt 8 rfl)
theorem RC.r15 (h : RC B wa σ A) : toR (gV 9 σ B 15) = some (B + 43) := gR_ok h.x (by omega) (h.pt 9 rfl)
theorem RC.r16 (h : RC B wa σ A) : toR (gV 9 σ B 16) = some (B + 44) := gR_ok h.x (by omega) (h.pt 10 rfl)
theorem RC.r17 (h : RC B wa σ A) : toR (gV 9 σ B 17) = some (B + 45) := gR_ok h.x (by omega) (h.pt 11 rfl)
theorem RC.o (h : RC B wa σ A) : isO 9 σ B = some () := isO_ok h.x
theorem RC.fact (h : RC B wa σ A) {k : Nat} (hk : k < 20) : toQ (aV 14 σ (B + 4) (iI k)) = some (some (B + (50 + k))) := by
  have h4 : σ.2.1 (B + 4) = some (14, 20) := h.sh 4 (by omega)
  rw [aV_ok h4 (by omega) (by omega) (by omega), show ((k : Int)).toNat = k by omega, h.2.2.2.2.1 k hk]
  rfl
theorem RC.walk (h : RC B wa σ A) (hA : Wf A) {w : Nat} (hw : w < wn A) : toQ (aV 13 σ (B + 3) (iI w)) = some (some (wa w)) := by
  have h3 : σ.2.1 (B + 3) = some (13, 8) := h.sh 3 (by omega)
  have := hA.2.2.1.1
  rw [aV_ok h3 (by omega) (by omega) (by omega), show ((w : Int)).toNat = w by omega, (h.2.2.2.2.2.2.2.2.2.1 w hw).1]
  rfl
theorem RC.walkAt (h : RC B wa σ A) {w : Nat} (hw : w < wn A) : WalkAt σ (wa w) (wk A w) := (h.2.2.2.2.2.2.2.2.2.1 w hw).2.1
theorem RC.factAt (h : RC B wa σ A) {k : Nat} (hk : k < fn A) : FactAt σ (B + (50 + k)) (fc A k).1 (fc A k).2.1 (fc A k).2.2.1 (fc A k).2.2.2.1 (fc A k).2.2.2.2 := h.2.2.2.2.2.2.2.2.1 k hk
end RCA
